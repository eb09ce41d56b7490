theorem d10_key_0 : decode c10_key 0 = .ok (.aload_n 0, 1) := by decide +kernel
theorem d10_key_1 : decode c10_key 1 = .ok (.iconst 0, 1) := by decide +kernel
theorem d10_key_2 : decode c10_key 2 = .ok (.putfield 1, 3) := by decide +kernel
theorem d10_key_5 : decode c10_key 5 = .ok (.iload_n 1, 1) := by decide +kernel
theorem d10_key_6 : decode c10_key 6 = .ok (.i2l, 1) := by decide +kernel
theorem d10_key_7 : decode c10_key 7 = .ok (.lconst 0, 1) := by decide +kernel
theorem d10_key_8 : decode c10_key 8 = .ok (.ldc2_w 117, 3) := by decide +kernel
theorem d10_key_11 : decode c10_key 11 = .ok (.invokestatic 119, 3) := by decide +kernel
theorem d10_key_14 : decode c10_key 14 = .ok (.ifCond .eq 13, 3) := by decide +kernel
theorem d10_key_17 : decode c10_key 17 = .ok (.iload_n 2, 1) := by decide +kernel
theorem d10_key_18 : decode c10_key 18 = .ok (.i2l, 1) := by decide +kernel
theorem d10_key_19 : decode c10_key 19 = .ok (.lconst 0, 1) := by decide +kernel
theorem d10_key_20 : decode c10_key 20 = .ok (.lconst 1, 1) := by decide +kernel
theorem d10_key_21 : decode c10_key 21 = .ok (.invokestatic 119, 3) := by decide +kernel
theorem d10_key_24 : decode c10_key 24 = .ok (.ifCond .ne 5, 3) := by decide +kernel
theorem d10_key_27 : decode c10_key 27 = .ok (.iconst (-1), 1) := by decide +kernel
theorem d10_key_28 : decode c10_key 28 = .ok (.ireturn, 1) := by decide +kernel
theorem d10_key_29 : decode c10_key 29 = .ok (.aload_n 0, 1) := by decide +kernel
theorem d10_key_30 : decode c10_key 30 = .ok (.iload_n 1, 1) := by decide +kernel
theorem d10_key_31 : decode c10_key 31 = .ok (.putfield 106, 3) := by decide +kernel
theorem d10_key_34 : decode c10_key 34 = .ok (.aload_n 0, 1) := by decide +kernel
theorem d10_key_35 : decode c10_key 35 = .ok (.iload_n 2, 1) := by decide +kernel
theorem d10_key_36 : decode c10_key 36 = .ok (.iconst 1, 1) := by decide +kernel
theorem d10_key_37 : decode c10_key 37 = .ok (.if_icmp .ne 7, 3) := by decide +kernel
theorem d10_key_40 : decode c10_key 40 = .ok (.iconst 1, 1) := by decide +kernel
theorem d10_key_41 : decode c10_key 41 = .ok (.goto 4, 3) := by decide +kernel
theorem d10_key_44 : decode c10_key 44 = .ok (.iconst 0, 1) := by decide +kernel
theorem d10_key_45 : decode c10_key 45 = .ok (.putfield 102, 3) := by decide +kernel
theorem d10_key_48 : decode c10_key 48 = .ok (.aload_n 0, 1) := by decide +kernel
theorem d10_key_49 : decode c10_key 49 = .ok (.iconst 0, 1) := by decide +kernel
theorem d10_key_50 : decode c10_key 50 = .ok (.putfield 123, 3) := by decide +kernel
theorem d10_key_53 : decode c10_key 53 = .ok (.iconst 1, 1) := by decide +kernel
theorem d10_key_54 : decode c10_key 54 = .ok (.ireturn, 1) := by decide +kernel
def t10_key (l : Launch) (Po : ri_O) : List ri_S := [i_al 1 0,
  i_con 2 0,
  i_put 3 10 0 ri_isI,
  i_il 4 1,
  i_i2l 5,
  i_lcon 6 0,
  i_lcon 7 11,
  i_call 8 3 (ri_Ev l y10_in w10_in r10_in 0 0) 0 0 0 0,
  i_if 9 15 (fun x => x = 0),
  i_il 10 2,
  i_i2l 11,
  i_lcon 12 0,
  i_lcon 13 1,
  i_call 14 3 (ri_Ev l y10_in w10_in r10_in 0 0) 0 0 0 0,
  i_if 15 17 (fun x => ¬ x = 0),
  i_con 16 (-1),
  i_ret Po 0 0,
  i_al 18 0,
  i_il 19 1,
  i_put 20 10 5 ri_isI,
  i_al 21 0,
  i_il 22 2,
  i_con 23 1,
  i_icmp 24 26 (fun x y => ¬ x = y),
  i_con 25 1,
  i_goto 27,
  i_con 27 0,
  i_put 28 10 6 ri_isZ,
  i_al 29 0,
  i_con 30 0,
  i_put 31 10 26 ri_isI,
  i_con 32 1,
  i_ret Po 0 0]
set_option maxRecDepth 20000 in
set_option maxHeartbeats 4000000 in
theorem z10_key (l : Launch) (Po : ri_O) (p : Program) (e : Env) (s : State) (m : MethodId) (args : Array Value) (below : List Frame) (meth : Method) (c : Code) (D : va_G) (ka : Nat → ClassId) (sa : Nat → Nat) (base : Nat) (X : ri_X p s m args c c10_key 3 w10_key "ChoraleSearchModel" D ka sa base) (hret : meth.sig.returnType = (some .int)) (hlocks : meth.locks = false) (hname : meth.name = "key") : ri_clo (ri_W p l e r10_key s m args below meth c D ka sa base 3 (MQ below (ri_Qc D ka sa base Po) args s 0 0 (fun q => base ≤ q)) p10_key) (t10_key l Po) := by
  refine ri_clo_of ?_
  unfold t10_key
  exact ⟨s_aload_n X d10_key_0 rfl rfl,
    s_iconst X d10_key_1 rfl rfl,
    s_put X (ci := 10) (f := 0) rfl (fun w h => List.mem_cons_of_mem _ (uC_10 w h)) (by decide) tC_10 oC_10 nC_10 rfl ri_ok_int (List.mem_cons_of_mem _ mgw_814) d10_key_2 rfl,
    s_iload_n X d10_key_5 rfl rfl,
    s_i2l X d10_key_6 rfl,
    s_lconst X d10_key_7 rfl rfl,
    s_ldc2 X d10_key_8 (List.mem_cons_of_mem _ mgw_927) rfl,
    s_callS ri_NW_ok X ⟨ri_cB X 3 mgw_930 (List.mem_cons_of_mem _ mgw_12) (List.mem_cons_of_mem _ mgw_928) (by decide +kernel) rfl rfl ⟨by decide, by decide⟩, X.2.2.2.2.1 _ (List.mem_cons_of_mem _ mgw_929)⟩ d10_key_11 rfl,
    s_if_eq X d10_key_14 rfl rfl,
    s_iload_n X d10_key_17 rfl rfl,
    s_i2l X d10_key_18 rfl,
    s_lconst X d10_key_19 rfl rfl,
    s_lconst X d10_key_20 rfl rfl,
    s_callS ri_NW_ok X ⟨ri_cB X 3 mgw_930 (List.mem_cons_of_mem _ mgw_12) (List.mem_cons_of_mem _ mgw_928) (by decide +kernel) rfl rfl ⟨by decide, by decide⟩, X.2.2.2.2.1 _ (List.mem_cons_of_mem _ mgw_929)⟩ d10_key_21 rfl,
    s_if_ne X d10_key_24 rfl rfl,
    s_iconst X d10_key_27 rfl rfl,
    s_iret X hret hlocks d10_key_28,
    s_aload_n X d10_key_29 rfl rfl,
    s_iload_n X d10_key_30 rfl rfl,
    s_put X (ci := 10) (f := 5) rfl (fun w h => List.mem_cons_of_mem _ (uC_10 w h)) (by decide) tC_10 oC_10 nC_10 rfl ri_ok_int (List.mem_cons_of_mem _ mgw_819) d10_key_31 rfl,
    s_aload_n X d10_key_34 rfl rfl,
    s_iload_n X d10_key_35 rfl rfl,
    s_iconst X d10_key_36 rfl rfl,
    s_icmp_ne X d10_key_37 rfl rfl,
    s_iconst X d10_key_40 rfl rfl,
    s_goto X d10_key_41 rfl,
    s_iconst X d10_key_44 rfl rfl,
    s_put X (ci := 10) (f := 6) rfl (fun w h => List.mem_cons_of_mem _ (uC_10 w h)) (by decide) tC_10 oC_10 nC_10 rfl ri_ok_bool (List.mem_cons_of_mem _ mgw_820) d10_key_45 rfl,
    s_aload_n X d10_key_48 rfl rfl,
    s_iconst X d10_key_49 rfl rfl,
    s_put X (ci := 10) (f := 26) rfl (fun w h => List.mem_cons_of_mem _ (uC_10 w h)) (by decide) tC_10 oC_10 nC_10 rfl ri_ok_int (List.mem_cons_of_mem _ mgw_840) d10_key_50 rfl,
    s_iconst X d10_key_53 rfl rfl,
    s_iret X hret hlocks d10_key_54, trivial⟩
theorem d10_places_0 : decode c10_places 0 = .ok (.aload_n 0, 1) := by decide +kernel
theorem d10_places_1 : decode c10_places 1 = .ok (.iconst 0, 1) := by decide +kernel
theorem d10_places_2 : decode c10_places 2 = .ok (.putfield 1, 3) := by decide +kernel
theorem d10_places_5 : decode c10_places 5 = .ok (.iload_n 1, 1) := by decide +kernel
theorem d10_places_6 : decode c10_places 6 = .ok (.i2l, 1) := by decide +kernel
theorem d10_places_7 : decode c10_places 7 = .ok (.lconst 1, 1) := by decide +kernel
theorem d10_places_8 : decode c10_places 8 = .ok (.ldc2_w 126, 3) := by decide +kernel
theorem d10_places_11 : decode c10_places 11 = .ok (.invokestatic 119, 3) := by decide +kernel
theorem d10_places_14 : decode c10_places 14 = .ok (.ifCond .ne 5, 3) := by decide +kernel
theorem d10_places_17 : decode c10_places 17 = .ok (.iconst (-1), 1) := by decide +kernel
theorem d10_places_18 : decode c10_places 18 = .ok (.ireturn, 1) := by decide +kernel
theorem d10_places_19 : decode c10_places 19 = .ok (.aload_n 0, 1) := by decide +kernel
theorem d10_places_20 : decode c10_places 20 = .ok (.getfield 26, 3) := by decide +kernel
theorem d10_places_23 : decode c10_places 23 = .ok (.istore_n 2, 1) := by decide +kernel
theorem d10_places_24 : decode c10_places 24 = .ok (.aload_n 0, 1) := by decide +kernel
theorem d10_places_25 : decode c10_places 25 = .ok (.iload_n 1, 1) := by decide +kernel
theorem d10_places_26 : decode c10_places 26 = .ok (.putfield 26, 3) := by decide +kernel
theorem d10_places_29 : decode c10_places 29 = .ok (.iload_n 1, 1) := by decide +kernel
theorem d10_places_30 : decode c10_places 30 = .ok (.istore_n 3, 1) := by decide +kernel
theorem d10_places_31 : decode c10_places 31 = .ok (.iload_n 3, 1) := by decide +kernel
theorem d10_places_32 : decode c10_places 32 = .ok (.bipush 16, 2) := by decide +kernel
theorem d10_places_34 : decode c10_places 34 = .ok (.if_icmp .ge 60, 3) := by decide +kernel
theorem d10_places_37 : decode c10_places 37 = .ok (.iconst 0, 1) := by decide +kernel
theorem d10_places_38 : decode c10_places 38 = .ok (.istore 4, 2) := by decide +kernel
theorem d10_places_40 : decode c10_places 40 = .ok (.iload 4, 2) := by decide +kernel
theorem d10_places_42 : decode c10_places 42 = .ok (.iconst 4, 1) := by decide +kernel
theorem d10_places_43 : decode c10_places 43 = .ok (.if_icmp .ge 22, 3) := by decide +kernel
theorem d10_places_46 : decode c10_places 46 = .ok (.aload_n 0, 1) := by decide +kernel
theorem d10_places_47 : decode c10_places 47 = .ok (.getfield 29, 3) := by decide +kernel
theorem d10_places_50 : decode c10_places 50 = .ok (.iconst 4, 1) := by decide +kernel
theorem d10_places_51 : decode c10_places 51 = .ok (.iload_n 3, 1) := by decide +kernel
theorem d10_places_52 : decode c10_places 52 = .ok (.imul, 1) := by decide +kernel
theorem d10_places_53 : decode c10_places 53 = .ok (.iload 4, 2) := by decide +kernel
theorem d10_places_55 : decode c10_places 55 = .ok (.iadd, 1) := by decide +kernel
theorem d10_places_56 : decode c10_places 56 = .ok (.bipush (-2), 2) := by decide +kernel
theorem d10_places_58 : decode c10_places 58 = .ok (.iastore, 1) := by decide +kernel
theorem d10_places_59 : decode c10_places 59 = .ok (.iinc 4 1, 3) := by decide +kernel
theorem d10_places_62 : decode c10_places 62 = .ok (.goto (-22), 3) := by decide +kernel
theorem d10_places_65 : decode c10_places 65 = .ok (.aload_n 0, 1) := by decide +kernel
theorem d10_places_66 : decode c10_places 66 = .ok (.getfield 32, 3) := by decide +kernel
theorem d10_places_69 : decode c10_places 69 = .ok (.iload_n 3, 1) := by decide +kernel
theorem d10_places_70 : decode c10_places 70 = .ok (.bipush (-2), 2) := by decide +kernel
theorem d10_places_72 : decode c10_places 72 = .ok (.iastore, 1) := by decide +kernel
theorem d10_places_73 : decode c10_places 73 = .ok (.aload_n 0, 1) := by decide +kernel
theorem d10_places_74 : decode c10_places 74 = .ok (.getfield 35, 3) := by decide +kernel
theorem d10_places_77 : decode c10_places 77 = .ok (.iload_n 3, 1) := by decide +kernel
theorem d10_places_78 : decode c10_places 78 = .ok (.bipush (-2), 2) := by decide +kernel
theorem d10_places_80 : decode c10_places 80 = .ok (.iastore, 1) := by decide +kernel
theorem d10_places_81 : decode c10_places 81 = .ok (.aload_n 0, 1) := by decide +kernel
theorem d10_places_82 : decode c10_places 82 = .ok (.getfield 38, 3) := by decide +kernel
theorem d10_places_85 : decode c10_places 85 = .ok (.iload_n 3, 1) := by decide +kernel
theorem d10_places_86 : decode c10_places 86 = .ok (.iconst 0, 1) := by decide +kernel
theorem d10_places_87 : decode c10_places 87 = .ok (.bastore, 1) := by decide +kernel
theorem d10_places_88 : decode c10_places 88 = .ok (.iinc 3 1, 3) := by decide +kernel
theorem d10_places_91 : decode c10_places 91 = .ok (.goto (-60), 3) := by decide +kernel
theorem d10_places_94 : decode c10_places 94 = .ok (.aload_n 0, 1) := by decide +kernel
theorem d10_places_95 : decode c10_places 95 = .ok (.iconst 0, 1) := by decide +kernel
theorem d10_places_96 : decode c10_places 96 = .ok (.putfield 123, 3) := by decide +kernel
theorem d10_places_99 : decode c10_places 99 = .ok (.iload_n 2, 1) := by decide +kernel
theorem d10_places_100 : decode c10_places 100 = .ok (.ireturn, 1) := by decide +kernel
def t10_places (l : Launch) (Po : ri_O) : List ri_S := [i_al 1 0,
  i_con 2 0,
  i_put 3 10 0 ri_isI,
  i_il 4 1,
  i_i2l 5,
  i_lcon 6 1,
  i_lcon 7 16,
  i_call 8 3 (ri_Ev l y10_in w10_in r10_in 0 0) 0 0 0 0,
  i_if 9 11 (fun x => ¬ x = 0),
  i_con 10 (-1),
  i_ret Po 0 0,
  i_al 12 0,
  i_get 13 10 7,
  i_is 14 2,
  i_al 15 0,
  i_il 16 1,
  i_put 17 10 7 ri_isI,
  i_il 18 1,
  i_is 19 3,
  i_il 20 3,
  i_con 21 16,
  i_icmp 22 55 (fun x y => y ≤ x),
  i_con 23 0,
  i_is 24 4,
  i_il 25 4,
  i_con 26 4,
  i_icmp 27 38 (fun x y => y ≤ x),
  i_al 28 0,
  i_get 29 10 8,
  i_con 30 4,
  i_il 31 3,
  i_bin 32 (fun x y => x * y),
  i_il 33 4,
  i_bin 34 (fun x y => x + y),
  i_con 35 (-2),
  i_ast 36 0 (fun x => x),
  i_inc 37 4 1,
  i_goto 24,
  i_al 39 0,
  i_get 40 10 9,
  i_il 41 3,
  i_con 42 (-2),
  i_ast 43 0 (fun x => x),
  i_al 44 0,
  i_get 45 10 10,
  i_il 46 3,
  i_con 47 (-2),
  i_ast 48 0 (fun x => x),
  i_al 49 0,
  i_get 50 10 11,
  i_il 51 3,
  i_con 52 0,
  i_ast 53 1 (fun x => vp_nar .boolean x),
  i_inc 54 3 1,
  i_goto 19,
  i_al 56 0,
  i_con 57 0,
  i_put 58 10 26 ri_isI,
  i_il 59 2,
  i_ret Po 0 0]
set_option maxRecDepth 20000 in
set_option maxHeartbeats 4000000 in
theorem z10_places (l : Launch) (Po : ri_O) (p : Program) (e : Env) (s : State) (m : MethodId) (args : Array Value) (below : List Frame) (meth : Method) (c : Code) (D : va_G) (ka : Nat → ClassId) (sa : Nat → Nat) (base : Nat) (X : ri_X p s m args c c10_places 5 w10_places "ChoraleSearchModel" D ka sa base) (hret : meth.sig.returnType = (some .int)) (hlocks : meth.locks = false) (hname : meth.name = "places") : ri_clo (ri_W p l e r10_places s m args below meth c D ka sa base 5 (MQ below (ri_Qc D ka sa base Po) args s 0 0 (fun q => base ≤ q)) p10_places) (t10_places l Po) := by
  refine ri_clo_of ?_
  unfold t10_places
  exact ⟨s_aload_n X d10_places_0 rfl rfl,
    s_iconst X d10_places_1 rfl rfl,
    s_put X (ci := 10) (f := 0) rfl (fun w h => List.mem_cons_of_mem _ (uC_10 w h)) (by decide) tC_10 oC_10 nC_10 rfl ri_ok_int (List.mem_cons_of_mem _ mgw_814) d10_places_2 rfl,
    s_iload_n X d10_places_5 rfl rfl,
    s_i2l X d10_places_6 rfl,
    s_lconst X d10_places_7 rfl rfl,
    s_ldc2 X d10_places_8 (List.mem_cons_of_mem _ mgw_935) rfl,
    s_callS ri_NW_ok X ⟨ri_cB X 3 mgw_930 (List.mem_cons_of_mem _ mgw_12) (List.mem_cons_of_mem _ mgw_928) (by decide +kernel) rfl rfl ⟨by decide, by decide⟩, X.2.2.2.2.1 _ (List.mem_cons_of_mem _ mgw_929)⟩ d10_places_11 rfl,
    s_if_ne X d10_places_14 rfl rfl,
    s_iconst X d10_places_17 rfl rfl,
    s_iret X hret hlocks d10_places_18,
    s_aload_n X d10_places_19 rfl rfl,
    s_get X (ci := 10) (f := 7) rfl (fun w h => List.mem_cons_of_mem _ (uC_10 w h)) (by decide) (List.mem_cons_of_mem _ mgw_821) d10_places_20 rfl,
    s_istore_n X d10_places_23 rfl (by decide) rfl,
    s_aload_n X d10_places_24 rfl rfl,
    s_iload_n X d10_places_25 rfl rfl,
    s_put X (ci := 10) (f := 7) rfl (fun w h => List.mem_cons_of_mem _ (uC_10 w h)) (by decide) tC_10 oC_10 nC_10 rfl ri_ok_int (List.mem_cons_of_mem _ mgw_821) d10_places_26 rfl,
    s_iload_n X d10_places_29 rfl rfl,
    s_istore_n X d10_places_30 rfl (by decide) rfl,
    s_iload_n X d10_places_31 rfl rfl,
    s_bipush X d10_places_32 rfl rfl,
    s_icmp_ge X d10_places_34 rfl rfl,
    s_iconst X d10_places_37 rfl rfl,
    s_istore X d10_places_38 (by decide) rfl,
    s_iload X d10_places_40 rfl,
    s_iconst X d10_places_42 rfl rfl,
    s_icmp_ge X d10_places_43 rfl rfl,
    s_aload_n X d10_places_46 rfl rfl,
    s_get X (ci := 10) (f := 8) rfl (fun w h => List.mem_cons_of_mem _ (uC_10 w h)) (by decide) (List.mem_cons_of_mem _ mgw_822) d10_places_47 rfl,
    s_iconst X d10_places_50 rfl rfl,
    s_iload_n X d10_places_51 rfl rfl,
    s_imul X d10_places_52 rfl,
    s_iload X d10_places_53 rfl,
    s_iadd X d10_places_55 rfl,
    s_bipush X d10_places_56 rfl rfl,
    s_iast X rfl d10_places_58 rfl,
    s_iinc X d10_places_59 rfl (by decide) rfl,
    s_goto X d10_places_62 rfl,
    s_aload_n X d10_places_65 rfl rfl,
    s_get X (ci := 10) (f := 9) rfl (fun w h => List.mem_cons_of_mem _ (uC_10 w h)) (by decide) (List.mem_cons_of_mem _ mgw_823) d10_places_66 rfl,
    s_iload_n X d10_places_69 rfl rfl,
    s_bipush X d10_places_70 rfl rfl,
    s_iast X rfl d10_places_72 rfl,
    s_aload_n X d10_places_73 rfl rfl,
    s_get X (ci := 10) (f := 10) rfl (fun w h => List.mem_cons_of_mem _ (uC_10 w h)) (by decide) (List.mem_cons_of_mem _ mgw_824) d10_places_74 rfl,
    s_iload_n X d10_places_77 rfl rfl,
    s_bipush X d10_places_78 rfl rfl,
    s_iast X rfl d10_places_80 rfl,
    s_aload_n X d10_places_81 rfl rfl,
    s_get X (ci := 10) (f := 11) rfl (fun w h => List.mem_cons_of_mem _ (uC_10 w h)) (by decide) (List.mem_cons_of_mem _ mgw_825) d10_places_82 rfl,
    s_iload_n X d10_places_85 rfl rfl,
    s_iconst X d10_places_86 rfl rfl,
    s_zast X rfl d10_places_87 rfl,
    s_iinc X d10_places_88 rfl (by decide) rfl,
    s_goto X d10_places_91 rfl,
    s_aload_n X d10_places_94 rfl rfl,
    s_iconst X d10_places_95 rfl rfl,
    s_put X (ci := 10) (f := 26) rfl (fun w h => List.mem_cons_of_mem _ (uC_10 w h)) (by decide) tC_10 oC_10 nC_10 rfl ri_ok_int (List.mem_cons_of_mem _ mgw_840) d10_places_96 rfl,
    s_iload_n X d10_places_99 rfl rfl,
    s_iret X hret hlocks d10_places_100, trivial⟩
theorem d10_given_0 : decode c10_given 0 = .ok (.aload_n 0, 1) := by decide +kernel
theorem d10_given_1 : decode c10_given 1 = .ok (.iconst 0, 1) := by decide +kernel
theorem d10_given_2 : decode c10_given 2 = .ok (.putfield 1, 3) := by decide +kernel
theorem d10_given_5 : decode c10_given 5 = .ok (.iload_n 1, 1) := by decide +kernel
theorem d10_given_6 : decode c10_given 6 = .ok (.i2l, 1) := by decide +kernel
theorem d10_given_7 : decode c10_given 7 = .ok (.lconst 0, 1) := by decide +kernel
theorem d10_given_8 : decode c10_given 8 = .ok (.ldc2_w 128, 3) := by decide +kernel
theorem d10_given_11 : decode c10_given 11 = .ok (.invokestatic 119, 3) := by decide +kernel
theorem d10_given_14 : decode c10_given 14 = .ok (.ifCond .eq 25, 3) := by decide +kernel
theorem d10_given_17 : decode c10_given 17 = .ok (.aload_n 0, 1) := by decide +kernel
theorem d10_given_18 : decode c10_given 18 = .ok (.iload_n 2, 1) := by decide +kernel
theorem d10_given_19 : decode c10_given 19 = .ok (.invokevirtual 130, 3) := by decide +kernel
theorem d10_given_22 : decode c10_given 22 = .ok (.ifCond .ne 17, 3) := by decide +kernel
theorem d10_given_25 : decode c10_given 25 = .ok (.iload_n 3, 1) := by decide +kernel
theorem d10_given_26 : decode c10_given 26 = .ok (.i2l, 1) := by decide +kernel
theorem d10_given_27 : decode c10_given 27 = .ok (.ldc2_w 134, 3) := by decide +kernel
theorem d10_given_30 : decode c10_given 30 = .ok (.ldc2_w 136, 3) := by decide +kernel
theorem d10_given_33 : decode c10_given 33 = .ok (.invokestatic 119, 3) := by decide +kernel
theorem d10_given_36 : decode c10_given 36 = .ok (.ifCond .ne 5, 3) := by decide +kernel
theorem d10_given_39 : decode c10_given 39 = .ok (.iconst (-1), 1) := by decide +kernel
theorem d10_given_40 : decode c10_given 40 = .ok (.ireturn, 1) := by decide +kernel
theorem d10_given_41 : decode c10_given 41 = .ok (.aload_n 0, 1) := by decide +kernel
theorem d10_given_42 : decode c10_given 42 = .ok (.getfield 29, 3) := by decide +kernel
theorem d10_given_45 : decode c10_given 45 = .ok (.iconst 4, 1) := by decide +kernel
theorem d10_given_46 : decode c10_given 46 = .ok (.iload_n 2, 1) := by decide +kernel
theorem d10_given_47 : decode c10_given 47 = .ok (.imul, 1) := by decide +kernel
theorem d10_given_48 : decode c10_given 48 = .ok (.iload_n 1, 1) := by decide +kernel
theorem d10_given_49 : decode c10_given 49 = .ok (.iadd, 1) := by decide +kernel
theorem d10_given_50 : decode c10_given 50 = .ok (.iaload, 1) := by decide +kernel
theorem d10_given_51 : decode c10_given 51 = .ok (.istore 4, 2) := by decide +kernel
theorem d10_given_53 : decode c10_given 53 = .ok (.aload_n 0, 1) := by decide +kernel
theorem d10_given_54 : decode c10_given 54 = .ok (.getfield 29, 3) := by decide +kernel
theorem d10_given_57 : decode c10_given 57 = .ok (.iconst 4, 1) := by decide +kernel
theorem d10_given_58 : decode c10_given 58 = .ok (.iload_n 2, 1) := by decide +kernel
theorem d10_given_59 : decode c10_given 59 = .ok (.imul, 1) := by decide +kernel
theorem d10_given_60 : decode c10_given 60 = .ok (.iload_n 1, 1) := by decide +kernel
theorem d10_given_61 : decode c10_given 61 = .ok (.iadd, 1) := by decide +kernel
theorem d10_given_62 : decode c10_given 62 = .ok (.iload_n 3, 1) := by decide +kernel
theorem d10_given_63 : decode c10_given 63 = .ok (.iastore, 1) := by decide +kernel
theorem d10_given_64 : decode c10_given 64 = .ok (.aload_n 0, 1) := by decide +kernel
theorem d10_given_65 : decode c10_given 65 = .ok (.iconst 0, 1) := by decide +kernel
theorem d10_given_66 : decode c10_given 66 = .ok (.putfield 123, 3) := by decide +kernel
theorem d10_given_69 : decode c10_given 69 = .ok (.iload 4, 2) := by decide +kernel
theorem d10_given_71 : decode c10_given 71 = .ok (.ireturn, 1) := by decide +kernel
def t10_given (l : Launch) (Po : ri_O) : List ri_S := [i_al 1 0,
  i_con 2 0,
  i_put 3 10 0 ri_isI,
  i_il 4 1,
  i_i2l 5,
  i_lcon 6 0,
  i_lcon 7 3,
  i_call 8 3 (ri_Ev l y10_in w10_in r10_in 0 0) 0 0 0 0,
  i_if 9 19 (fun x => x = 0),
  i_al 10 0,
  i_il 11 2,
  i_callV 12 2 10 (ri_Ev l y10_noPlace w10_noPlace r10_noPlace 0 0) 0 0 0 0,
  i_if 13 19 (fun x => ¬ x = 0),
  i_il 14 3,
  i_i2l 15,
  i_lcon 16 36,
  i_lcon 17 84,
  i_call 18 3 (ri_Ev l y10_in w10_in r10_in 0 0) 0 0 0 0,
  i_if 19 21 (fun x => ¬ x = 0),
  i_con 20 (-1),
  i_ret Po 0 0,
  i_al 22 0,
  i_get 23 10 8,
  i_con 24 4,
  i_il 25 2,
  i_bin 26 (fun x y => x * y),
  i_il 27 1,
  i_bin 28 (fun x y => x + y),
  i_ald 29 0,
  i_is 30 4,
  i_al 31 0,
  i_get 32 10 8,
  i_con 33 4,
  i_il 34 2,
  i_bin 35 (fun x y => x * y),
  i_il 36 1,
  i_bin 37 (fun x y => x + y),
  i_il 38 3,
  i_ast 39 0 (fun x => x),
  i_al 40 0,
  i_con 41 0,
  i_put 42 10 26 ri_isI,
  i_il 43 4,
  i_ret Po 0 0]
set_option maxRecDepth 20000 in
set_option maxHeartbeats 4000000 in
theorem z10_given (l : Launch) (Po : ri_O) (p : Program) (e : Env) (s : State) (m : MethodId) (args : Array Value) (below : List Frame) (meth : Method) (c : Code) (D : va_G) (ka : Nat → ClassId) (sa : Nat → Nat) (base : Nat) (X : ri_X p s m args c c10_given 5 w10_given "ChoraleSearchModel" D ka sa base) (hret : meth.sig.returnType = (some .int)) (hlocks : meth.locks = false) (hname : meth.name = "given") : ri_clo (ri_W p l e r10_given s m args below meth c D ka sa base 5 (MQ below (ri_Qc D ka sa base Po) args s 0 0 (fun q => base ≤ q)) p10_given) (t10_given l Po) := by
  refine ri_clo_of ?_
  unfold t10_given
  exact ⟨s_aload_n X d10_given_0 rfl rfl,
    s_iconst X d10_given_1 rfl rfl,
    s_put X (ci := 10) (f := 0) rfl (fun w h => List.mem_cons_of_mem _ (uC_10 w h)) (by decide) tC_10 oC_10 nC_10 rfl ri_ok_int (List.mem_cons_of_mem _ mgw_814) d10_given_2 rfl,
    s_iload_n X d10_given_5 rfl rfl,
    s_i2l X d10_given_6 rfl,
    s_lconst X d10_given_7 rfl rfl,
    s_ldc2 X d10_given_8 (List.mem_cons_of_mem _ mgw_940) rfl,
    s_callS ri_NW_ok X ⟨ri_cB X 3 mgw_930 (List.mem_cons_of_mem _ mgw_12) (List.mem_cons_of_mem _ mgw_928) (by decide +kernel) rfl rfl ⟨by decide, by decide⟩, X.2.2.2.2.1 _ (List.mem_cons_of_mem _ mgw_929)⟩ d10_given_11 rfl,
    s_if_eq X d10_given_14 rfl rfl,
    s_aload_n X d10_given_17 rfl rfl,
    s_iload_n X d10_given_18 rfl rfl,
    s_callV ri_NW_ok X (na := 1) (ci := 10) rfl ⟨ri_cB X 1 mgw_944 (List.mem_cons_of_mem _ mgw_12) (List.mem_cons_of_mem _ mgw_941) (by decide +kernel) rfl rfl ⟨by decide, by decide⟩, X.2.2.2.2.1 _ (List.mem_cons_of_mem _ mgw_943), X.2.2.2.2.1 _ (List.mem_cons_of_mem _ mgp_77)⟩ d10_given_19 rfl,
    s_if_ne X d10_given_22 rfl rfl,
    s_iload_n X d10_given_25 rfl rfl,
    s_i2l X d10_given_26 rfl,
    s_ldc2 X d10_given_27 (List.mem_cons_of_mem _ mgw_945) rfl,
    s_ldc2 X d10_given_30 (List.mem_cons_of_mem _ mgw_946) rfl,
    s_callS ri_NW_ok X ⟨ri_cB X 3 mgw_930 (List.mem_cons_of_mem _ mgw_12) (List.mem_cons_of_mem _ mgw_928) (by decide +kernel) rfl rfl ⟨by decide, by decide⟩, X.2.2.2.2.1 _ (List.mem_cons_of_mem _ mgw_929)⟩ d10_given_33 rfl,
    s_if_ne X d10_given_36 rfl rfl,
    s_iconst X d10_given_39 rfl rfl,
    s_iret X hret hlocks d10_given_40,
    s_aload_n X d10_given_41 rfl rfl,
    s_get X (ci := 10) (f := 8) rfl (fun w h => List.mem_cons_of_mem _ (uC_10 w h)) (by decide) (List.mem_cons_of_mem _ mgw_822) d10_given_42 rfl,
    s_iconst X d10_given_45 rfl rfl,
    s_iload_n X d10_given_46 rfl rfl,
    s_imul X d10_given_47 rfl,
    s_iload_n X d10_given_48 rfl rfl,
    s_iadd X d10_given_49 rfl,
    s_iald X rfl d10_given_50 rfl,
    s_istore X d10_given_51 (by decide) rfl,
    s_aload_n X d10_given_53 rfl rfl,
    s_get X (ci := 10) (f := 8) rfl (fun w h => List.mem_cons_of_mem _ (uC_10 w h)) (by decide) (List.mem_cons_of_mem _ mgw_822) d10_given_54 rfl,
    s_iconst X d10_given_57 rfl rfl,
    s_iload_n X d10_given_58 rfl rfl,
    s_imul X d10_given_59 rfl,
    s_iload_n X d10_given_60 rfl rfl,
    s_iadd X d10_given_61 rfl,
    s_iload_n X d10_given_62 rfl rfl,
    s_iast X rfl d10_given_63 rfl,
    s_aload_n X d10_given_64 rfl rfl,
    s_iconst X d10_given_65 rfl rfl,
    s_put X (ci := 10) (f := 26) rfl (fun w h => List.mem_cons_of_mem _ (uC_10 w h)) (by decide) tC_10 oC_10 nC_10 rfl ri_ok_int (List.mem_cons_of_mem _ mgw_840) d10_given_66 rfl,
    s_iload X d10_given_69 rfl,
    s_iret X hret hlocks d10_given_71, trivial⟩
theorem d10_noPlace_0 : decode c10_noPlace 0 = .ok (.iload_n 1, 1) := by decide +kernel
theorem d10_noPlace_1 : decode c10_noPlace 1 = .ok (.i2l, 1) := by decide +kernel
theorem d10_noPlace_2 : decode c10_noPlace 2 = .ok (.lconst 0, 1) := by decide +kernel
theorem d10_noPlace_3 : decode c10_noPlace 3 = .ok (.aload_n 0, 1) := by decide +kernel
theorem d10_noPlace_4 : decode c10_noPlace 4 = .ok (.getfield 26, 3) := by decide +kernel
theorem d10_noPlace_7 : decode c10_noPlace 7 = .ok (.iconst 1, 1) := by decide +kernel
theorem d10_noPlace_8 : decode c10_noPlace 8 = .ok (.isub, 1) := by decide +kernel
theorem d10_noPlace_9 : decode c10_noPlace 9 = .ok (.i2l, 1) := by decide +kernel
theorem d10_noPlace_10 : decode c10_noPlace 10 = .ok (.invokestatic 119, 3) := by decide +kernel
theorem d10_noPlace_13 : decode c10_noPlace 13 = .ok (.ifCond .ne 7, 3) := by decide +kernel
theorem d10_noPlace_16 : decode c10_noPlace 16 = .ok (.iconst 1, 1) := by decide +kernel
theorem d10_noPlace_17 : decode c10_noPlace 17 = .ok (.goto 4, 3) := by decide +kernel
theorem d10_noPlace_20 : decode c10_noPlace 20 = .ok (.iconst 0, 1) := by decide +kernel
theorem d10_noPlace_21 : decode c10_noPlace 21 = .ok (.ireturn, 1) := by decide +kernel
def t10_noPlace (l : Launch) (Po : ri_O) : List ri_S := [i_il 1 1,
  i_i2l 2,
  i_lcon 3 0,
  i_al 4 0,
  i_get 5 10 7,
  i_con 6 1,
  i_bin 7 (fun x y => x - y),
  i_i2l 8,
  i_call 9 3 (ri_Ev l y10_in w10_in r10_in 0 0) 0 0 0 0,
  i_if 10 12 (fun x => ¬ x = 0),
  i_con 11 1,
  i_goto 13,
  i_con 13 0,
  i_zret Po 0 0]
set_option maxRecDepth 20000 in
set_option maxHeartbeats 4000000 in
theorem z10_noPlace (l : Launch) (Po : ri_O) (p : Program) (e : Env) (s : State) (m : MethodId) (args : Array Value) (below : List Frame) (meth : Method) (c : Code) (D : va_G) (ka : Nat → ClassId) (sa : Nat → Nat) (base : Nat) (X : ri_X p s m args c c10_noPlace 2 w10_noPlace "ChoraleSearchModel" D ka sa base) (hret : meth.sig.returnType = (some .boolean)) (hlocks : meth.locks = false) (hname : meth.name = "noPlace") : ri_clo (ri_W p l e r10_noPlace s m args below meth c D ka sa base 2 (MQ below (ri_Qc D ka sa base Po) args s 0 0 (fun q => base ≤ q)) p10_noPlace) (t10_noPlace l Po) := by
  refine ri_clo_of ?_
  unfold t10_noPlace
  exact ⟨s_iload_n X d10_noPlace_0 rfl rfl,
    s_i2l X d10_noPlace_1 rfl,
    s_lconst X d10_noPlace_2 rfl rfl,
    s_aload_n X d10_noPlace_3 rfl rfl,
    s_get X (ci := 10) (f := 7) rfl (fun w h => List.mem_cons_of_mem _ (uC_10 w h)) (by decide) (List.mem_cons_of_mem _ mgw_821) d10_noPlace_4 rfl,
    s_iconst X d10_noPlace_7 rfl rfl,
    s_isub X d10_noPlace_8 rfl,
    s_i2l X d10_noPlace_9 rfl,
    s_callS ri_NW_ok X ⟨ri_cB X 3 mgw_930 (List.mem_cons_of_mem _ mgw_12) (List.mem_cons_of_mem _ mgw_928) (by decide +kernel) rfl rfl ⟨by decide, by decide⟩, X.2.2.2.2.1 _ (List.mem_cons_of_mem _ mgw_929)⟩ d10_noPlace_10 rfl,
    s_if_ne X d10_noPlace_13 rfl rfl,
    s_iconst X d10_noPlace_16 rfl rfl,
    s_goto X d10_noPlace_17 rfl,
    s_iconst X d10_noPlace_20 rfl rfl,
    s_zret X hret hlocks d10_noPlace_21, trivial⟩
theorem d10_free_0 : decode c10_free 0 = .ok (.aload_n 0, 1) := by decide +kernel
theorem d10_free_1 : decode c10_free 1 = .ok (.iconst 0, 1) := by decide +kernel
theorem d10_free_2 : decode c10_free 2 = .ok (.putfield 1, 3) := by decide +kernel
theorem d10_free_5 : decode c10_free 5 = .ok (.iload_n 1, 1) := by decide +kernel
theorem d10_free_6 : decode c10_free 6 = .ok (.i2l, 1) := by decide +kernel
theorem d10_free_7 : decode c10_free 7 = .ok (.lconst 0, 1) := by decide +kernel
theorem d10_free_8 : decode c10_free 8 = .ok (.ldc2_w 128, 3) := by decide +kernel
theorem d10_free_11 : decode c10_free 11 = .ok (.invokestatic 119, 3) := by decide +kernel
theorem d10_free_14 : decode c10_free 14 = .ok (.ifCond .eq 11, 3) := by decide +kernel
theorem d10_free_17 : decode c10_free 17 = .ok (.aload_n 0, 1) := by decide +kernel
theorem d10_free_18 : decode c10_free 18 = .ok (.iload_n 2, 1) := by decide +kernel
theorem d10_free_19 : decode c10_free 19 = .ok (.invokevirtual 130, 3) := by decide +kernel
theorem d10_free_22 : decode c10_free 22 = .ok (.ifCond .eq 5, 3) := by decide +kernel
theorem d10_free_25 : decode c10_free 25 = .ok (.iconst (-1), 1) := by decide +kernel
theorem d10_free_26 : decode c10_free 26 = .ok (.ireturn, 1) := by decide +kernel
theorem d10_free_27 : decode c10_free 27 = .ok (.aload_n 0, 1) := by decide +kernel
theorem d10_free_28 : decode c10_free 28 = .ok (.getfield 29, 3) := by decide +kernel
theorem d10_free_31 : decode c10_free 31 = .ok (.iconst 4, 1) := by decide +kernel
theorem d10_free_32 : decode c10_free 32 = .ok (.iload_n 2, 1) := by decide +kernel
theorem d10_free_33 : decode c10_free 33 = .ok (.imul, 1) := by decide +kernel
theorem d10_free_34 : decode c10_free 34 = .ok (.iload_n 1, 1) := by decide +kernel
theorem d10_free_35 : decode c10_free 35 = .ok (.iadd, 1) := by decide +kernel
theorem d10_free_36 : decode c10_free 36 = .ok (.iaload, 1) := by decide +kernel
theorem d10_free_37 : decode c10_free 37 = .ok (.istore_n 3, 1) := by decide +kernel
theorem d10_free_38 : decode c10_free 38 = .ok (.aload_n 0, 1) := by decide +kernel
theorem d10_free_39 : decode c10_free 39 = .ok (.getfield 29, 3) := by decide +kernel
theorem d10_free_42 : decode c10_free 42 = .ok (.iconst 4, 1) := by decide +kernel
theorem d10_free_43 : decode c10_free 43 = .ok (.iload_n 2, 1) := by decide +kernel
theorem d10_free_44 : decode c10_free 44 = .ok (.imul, 1) := by decide +kernel
theorem d10_free_45 : decode c10_free 45 = .ok (.iload_n 1, 1) := by decide +kernel
theorem d10_free_46 : decode c10_free 46 = .ok (.iadd, 1) := by decide +kernel
theorem d10_free_47 : decode c10_free 47 = .ok (.bipush (-2), 2) := by decide +kernel
theorem d10_free_49 : decode c10_free 49 = .ok (.iastore, 1) := by decide +kernel
theorem d10_free_50 : decode c10_free 50 = .ok (.aload_n 0, 1) := by decide +kernel
theorem d10_free_51 : decode c10_free 51 = .ok (.iconst 0, 1) := by decide +kernel
theorem d10_free_52 : decode c10_free 52 = .ok (.putfield 123, 3) := by decide +kernel
theorem d10_free_55 : decode c10_free 55 = .ok (.iload_n 3, 1) := by decide +kernel
theorem d10_free_56 : decode c10_free 56 = .ok (.ireturn, 1) := by decide +kernel
def t10_free (l : Launch) (Po : ri_O) : List ri_S := [i_al 1 0,
  i_con 2 0,
  i_put 3 10 0 ri_isI,
  i_il 4 1,
  i_i2l 5,
  i_lcon 6 0,
  i_lcon 7 3,
  i_call 8 3 (ri_Ev l y10_in w10_in r10_in 0 0) 0 0 0 0,
  i_if 9 13 (fun x => x = 0),
  i_al 10 0,
  i_il 11 2,
  i_callV 12 2 10 (ri_Ev l y10_noPlace w10_noPlace r10_noPlace 0 0) 0 0 0 0,
  i_if 13 15 (fun x => x = 0),
  i_con 14 (-1),
  i_ret Po 0 0,
  i_al 16 0,
  i_get 17 10 8,
  i_con 18 4,
  i_il 19 2,
  i_bin 20 (fun x y => x * y),
  i_il 21 1,
  i_bin 22 (fun x y => x + y),
  i_ald 23 0,
  i_is 24 3,
  i_al 25 0,
  i_get 26 10 8,
  i_con 27 4,
  i_il 28 2,
  i_bin 29 (fun x y => x * y),
  i_il 30 1,
  i_bin 31 (fun x y => x + y),
  i_con 32 (-2),
  i_ast 33 0 (fun x => x),
  i_al 34 0,
  i_con 35 0,
  i_put 36 10 26 ri_isI,
  i_il 37 3,
  i_ret Po 0 0]
set_option maxRecDepth 20000 in
set_option maxHeartbeats 4000000 in
theorem z10_free (l : Launch) (Po : ri_O) (p : Program) (e : Env) (s : State) (m : MethodId) (args : Array Value) (below : List Frame) (meth : Method) (c : Code) (D : va_G) (ka : Nat → ClassId) (sa : Nat → Nat) (base : Nat) (X : ri_X p s m args c c10_free 4 w10_free "ChoraleSearchModel" D ka sa base) (hret : meth.sig.returnType = (some .int)) (hlocks : meth.locks = false) (hname : meth.name = "free") : ri_clo (ri_W p l e r10_free s m args below meth c D ka sa base 4 (MQ below (ri_Qc D ka sa base Po) args s 0 0 (fun q => base ≤ q)) p10_free) (t10_free l Po) := by
  refine ri_clo_of ?_
  unfold t10_free
  exact ⟨s_aload_n X d10_free_0 rfl rfl,
    s_iconst X d10_free_1 rfl rfl,
    s_put X (ci := 10) (f := 0) rfl (fun w h => List.mem_cons_of_mem _ (uC_10 w h)) (by decide) tC_10 oC_10 nC_10 rfl ri_ok_int (List.mem_cons_of_mem _ mgw_814) d10_free_2 rfl,
    s_iload_n X d10_free_5 rfl rfl,
    s_i2l X d10_free_6 rfl,
    s_lconst X d10_free_7 rfl rfl,
    s_ldc2 X d10_free_8 (List.mem_cons_of_mem _ mgw_940) rfl,
    s_callS ri_NW_ok X ⟨ri_cB X 3 mgw_930 (List.mem_cons_of_mem _ mgw_12) (List.mem_cons_of_mem _ mgw_928) (by decide +kernel) rfl rfl ⟨by decide, by decide⟩, X.2.2.2.2.1 _ (List.mem_cons_of_mem _ mgw_929)⟩ d10_free_11 rfl,
    s_if_eq X d10_free_14 rfl rfl,
    s_aload_n X d10_free_17 rfl rfl,
    s_iload_n X d10_free_18 rfl rfl,
    s_callV ri_NW_ok X (na := 1) (ci := 10) rfl ⟨ri_cB X 1 mgw_944 (List.mem_cons_of_mem _ mgw_12) (List.mem_cons_of_mem _ mgw_941) (by decide +kernel) rfl rfl ⟨by decide, by decide⟩, X.2.2.2.2.1 _ (List.mem_cons_of_mem _ mgw_943), X.2.2.2.2.1 _ (List.mem_cons_of_mem _ mgp_77)⟩ d10_free_19 rfl,
    s_if_eq X d10_free_22 rfl rfl,
    s_iconst X d10_free_25 rfl rfl,
    s_iret X hret hlocks d10_free_26,
    s_aload_n X d10_free_27 rfl rfl,
    s_get X (ci := 10) (f := 8) rfl (fun w h => List.mem_cons_of_mem _ (uC_10 w h)) (by decide) (List.mem_cons_of_mem _ mgw_822) d10_free_28 rfl,
    s_iconst X d10_free_31 rfl rfl,
    s_iload_n X d10_free_32 rfl rfl,
    s_imul X d10_free_33 rfl,
    s_iload_n X d10_free_34 rfl rfl,
    s_iadd X d10_free_35 rfl,
    s_iald X rfl d10_free_36 rfl,
    s_istore_n X d10_free_37 rfl (by decide) rfl,
    s_aload_n X d10_free_38 rfl rfl,
    s_get X (ci := 10) (f := 8) rfl (fun w h => List.mem_cons_of_mem _ (uC_10 w h)) (by decide) (List.mem_cons_of_mem _ mgw_822) d10_free_39 rfl,
    s_iconst X d10_free_42 rfl rfl,
    s_iload_n X d10_free_43 rfl rfl,
    s_imul X d10_free_44 rfl,
    s_iload_n X d10_free_45 rfl rfl,
    s_iadd X d10_free_46 rfl,
    s_bipush X d10_free_47 rfl rfl,
    s_iast X rfl d10_free_49 rfl,
    s_aload_n X d10_free_50 rfl rfl,
    s_iconst X d10_free_51 rfl rfl,
    s_put X (ci := 10) (f := 26) rfl (fun w h => List.mem_cons_of_mem _ (uC_10 w h)) (by decide) tC_10 oC_10 nC_10 rfl ri_ok_int (List.mem_cons_of_mem _ mgw_840) d10_free_52 rfl,
    s_iload_n X d10_free_55 rfl rfl,
    s_iret X hret hlocks d10_free_56, trivial⟩
theorem d10_figure_0 : decode c10_figure 0 = .ok (.aload_n 0, 1) := by decide +kernel
theorem d10_figure_1 : decode c10_figure 1 = .ok (.iconst 0, 1) := by decide +kernel
theorem d10_figure_2 : decode c10_figure 2 = .ok (.putfield 1, 3) := by decide +kernel
theorem d10_figure_5 : decode c10_figure 5 = .ok (.aload_n 0, 1) := by decide +kernel
theorem d10_figure_6 : decode c10_figure 6 = .ok (.iload_n 1, 1) := by decide +kernel
theorem d10_figure_7 : decode c10_figure 7 = .ok (.invokevirtual 130, 3) := by decide +kernel
theorem d10_figure_10 : decode c10_figure 10 = .ok (.ifCond .ne 17, 3) := by decide +kernel
theorem d10_figure_13 : decode c10_figure 13 = .ok (.iload_n 2, 1) := by decide +kernel
theorem d10_figure_14 : decode c10_figure 14 = .ok (.i2l, 1) := by decide +kernel
theorem d10_figure_15 : decode c10_figure 15 = .ok (.ldc2_w 138, 3) := by decide +kernel
theorem d10_figure_18 : decode c10_figure 18 = .ok (.ldc2_w 140, 3) := by decide +kernel
theorem d10_figure_21 : decode c10_figure 21 = .ok (.invokestatic 119, 3) := by decide +kernel
theorem d10_figure_24 : decode c10_figure 24 = .ok (.ifCond .ne 5, 3) := by decide +kernel
theorem d10_figure_27 : decode c10_figure 27 = .ok (.iconst (-1), 1) := by decide +kernel
theorem d10_figure_28 : decode c10_figure 28 = .ok (.ireturn, 1) := by decide +kernel
theorem d10_figure_29 : decode c10_figure 29 = .ok (.aload_n 0, 1) := by decide +kernel
theorem d10_figure_30 : decode c10_figure 30 = .ok (.getfield 32, 3) := by decide +kernel
theorem d10_figure_33 : decode c10_figure 33 = .ok (.iload_n 1, 1) := by decide +kernel
theorem d10_figure_34 : decode c10_figure 34 = .ok (.iaload, 1) := by decide +kernel
theorem d10_figure_35 : decode c10_figure 35 = .ok (.istore_n 3, 1) := by decide +kernel
theorem d10_figure_36 : decode c10_figure 36 = .ok (.aload_n 0, 1) := by decide +kernel
theorem d10_figure_37 : decode c10_figure 37 = .ok (.getfield 32, 3) := by decide +kernel
theorem d10_figure_40 : decode c10_figure 40 = .ok (.iload_n 1, 1) := by decide +kernel
theorem d10_figure_41 : decode c10_figure 41 = .ok (.iload_n 2, 1) := by decide +kernel
theorem d10_figure_42 : decode c10_figure 42 = .ok (.ifCond .ge 8, 3) := by decide +kernel
theorem d10_figure_45 : decode c10_figure 45 = .ok (.bipush (-2), 2) := by decide +kernel
theorem d10_figure_47 : decode c10_figure 47 = .ok (.goto 4, 3) := by decide +kernel
theorem d10_figure_50 : decode c10_figure 50 = .ok (.iload_n 2, 1) := by decide +kernel
theorem d10_figure_51 : decode c10_figure 51 = .ok (.iastore, 1) := by decide +kernel
theorem d10_figure_52 : decode c10_figure 52 = .ok (.aload_n 0, 1) := by decide +kernel
theorem d10_figure_53 : decode c10_figure 53 = .ok (.iconst 0, 1) := by decide +kernel
theorem d10_figure_54 : decode c10_figure 54 = .ok (.putfield 123, 3) := by decide +kernel
theorem d10_figure_57 : decode c10_figure 57 = .ok (.iload_n 3, 1) := by decide +kernel
theorem d10_figure_58 : decode c10_figure 58 = .ok (.ireturn, 1) := by decide +kernel
def t10_figure (l : Launch) (Po : ri_O) : List ri_S := [i_al 1 0,
  i_con 2 0,
  i_put 3 10 0 ri_isI,
  i_al 4 0,
  i_il 5 1,
  i_callV 6 2 10 (ri_Ev l y10_noPlace w10_noPlace r10_noPlace 0 0) 0 0 0 0,
  i_if 7 13 (fun x => ¬ x = 0),
  i_il 8 2,
  i_i2l 9,
  i_lcon 10 (-1),
  i_lcon 11 12,
  i_call 12 3 (ri_Ev l y10_in w10_in r10_in 0 0) 0 0 0 0,
  i_if 13 15 (fun x => ¬ x = 0),
  i_con 14 (-1),
  i_ret Po 0 0,
  i_al 16 0,
  i_get 17 10 9,
  i_il 18 1,
  i_ald 19 0,
  i_is 20 3,
  i_al 21 0,
  i_get 22 10 9,
  i_il 23 1,
  i_il 24 2,
  i_if 25 27 (fun x => 0 ≤ x),
  i_con 26 (-2),
  i_goto 28,
  i_il 28 2,
  i_ast 29 0 (fun x => x),
  i_al 30 0,
  i_con 31 0,
  i_put 32 10 26 ri_isI,
  i_il 33 3,
  i_ret Po 0 0]
set_option maxRecDepth 20000 in
set_option maxHeartbeats 4000000 in
theorem z10_figure (l : Launch) (Po : ri_O) (p : Program) (e : Env) (s : State) (m : MethodId) (args : Array Value) (below : List Frame) (meth : Method) (c : Code) (D : va_G) (ka : Nat → ClassId) (sa : Nat → Nat) (base : Nat) (X : ri_X p s m args c c10_figure 4 w10_figure "ChoraleSearchModel" D ka sa base) (hret : meth.sig.returnType = (some .int)) (hlocks : meth.locks = false) (hname : meth.name = "figure") : ri_clo (ri_W p l e r10_figure s m args below meth c D ka sa base 4 (MQ below (ri_Qc D ka sa base Po) args s 0 0 (fun q => base ≤ q)) p10_figure) (t10_figure l Po) := by
  refine ri_clo_of ?_
  unfold t10_figure
  exact ⟨s_aload_n X d10_figure_0 rfl rfl,
    s_iconst X d10_figure_1 rfl rfl,
    s_put X (ci := 10) (f := 0) rfl (fun w h => List.mem_cons_of_mem _ (uC_10 w h)) (by decide) tC_10 oC_10 nC_10 rfl ri_ok_int (List.mem_cons_of_mem _ mgw_814) d10_figure_2 rfl,
    s_aload_n X d10_figure_5 rfl rfl,
    s_iload_n X d10_figure_6 rfl rfl,
    s_callV ri_NW_ok X (na := 1) (ci := 10) rfl ⟨ri_cB X 1 mgw_944 (List.mem_cons_of_mem _ mgw_12) (List.mem_cons_of_mem _ mgw_941) (by decide +kernel) rfl rfl ⟨by decide, by decide⟩, X.2.2.2.2.1 _ (List.mem_cons_of_mem _ mgw_943), X.2.2.2.2.1 _ (List.mem_cons_of_mem _ mgp_77)⟩ d10_figure_7 rfl,
    s_if_ne X d10_figure_10 rfl rfl,
    s_iload_n X d10_figure_13 rfl rfl,
    s_i2l X d10_figure_14 rfl,
    s_ldc2 X d10_figure_15 (List.mem_cons_of_mem _ mgw_955) rfl,
    s_ldc2 X d10_figure_18 (List.mem_cons_of_mem _ mgw_956) rfl,
    s_callS ri_NW_ok X ⟨ri_cB X 3 mgw_930 (List.mem_cons_of_mem _ mgw_12) (List.mem_cons_of_mem _ mgw_928) (by decide +kernel) rfl rfl ⟨by decide, by decide⟩, X.2.2.2.2.1 _ (List.mem_cons_of_mem _ mgw_929)⟩ d10_figure_21 rfl,
    s_if_ne X d10_figure_24 rfl rfl,
    s_iconst X d10_figure_27 rfl rfl,
    s_iret X hret hlocks d10_figure_28,
    s_aload_n X d10_figure_29 rfl rfl,
    s_get X (ci := 10) (f := 9) rfl (fun w h => List.mem_cons_of_mem _ (uC_10 w h)) (by decide) (List.mem_cons_of_mem _ mgw_823) d10_figure_30 rfl,
    s_iload_n X d10_figure_33 rfl rfl,
    s_iald X rfl d10_figure_34 rfl,
    s_istore_n X d10_figure_35 rfl (by decide) rfl,
    s_aload_n X d10_figure_36 rfl rfl,
    s_get X (ci := 10) (f := 9) rfl (fun w h => List.mem_cons_of_mem _ (uC_10 w h)) (by decide) (List.mem_cons_of_mem _ mgw_823) d10_figure_37 rfl,
    s_iload_n X d10_figure_40 rfl rfl,
    s_iload_n X d10_figure_41 rfl rfl,
    s_if_ge X d10_figure_42 rfl rfl,
    s_bipush X d10_figure_45 rfl rfl,
    s_goto X d10_figure_47 rfl,
    s_iload_n X d10_figure_50 rfl rfl,
    s_iast X rfl d10_figure_51 rfl,
    s_aload_n X d10_figure_52 rfl rfl,
    s_iconst X d10_figure_53 rfl rfl,
    s_put X (ci := 10) (f := 26) rfl (fun w h => List.mem_cons_of_mem _ (uC_10 w h)) (by decide) tC_10 oC_10 nC_10 rfl ri_ok_int (List.mem_cons_of_mem _ mgw_840) d10_figure_54 rfl,
    s_iload_n X d10_figure_57 rfl rfl,
    s_iret X hret hlocks d10_figure_58, trivial⟩
theorem d10_inversion_0 : decode c10_inversion 0 = .ok (.aload_n 0, 1) := by decide +kernel
theorem d10_inversion_1 : decode c10_inversion 1 = .ok (.iconst 0, 1) := by decide +kernel
theorem d10_inversion_2 : decode c10_inversion 2 = .ok (.putfield 1, 3) := by decide +kernel
theorem d10_inversion_5 : decode c10_inversion 5 = .ok (.aload_n 0, 1) := by decide +kernel
theorem d10_inversion_6 : decode c10_inversion 6 = .ok (.iload_n 1, 1) := by decide +kernel
theorem d10_inversion_7 : decode c10_inversion 7 = .ok (.invokevirtual 130, 3) := by decide +kernel
theorem d10_inversion_10 : decode c10_inversion 10 = .ok (.ifCond .ne 17, 3) := by decide +kernel
theorem d10_inversion_13 : decode c10_inversion 13 = .ok (.iload_n 2, 1) := by decide +kernel
theorem d10_inversion_14 : decode c10_inversion 14 = .ok (.i2l, 1) := by decide +kernel
theorem d10_inversion_15 : decode c10_inversion 15 = .ok (.ldc2_w 138, 3) := by decide +kernel
theorem d10_inversion_18 : decode c10_inversion 18 = .ok (.ldc2_w 128, 3) := by decide +kernel
theorem d10_inversion_21 : decode c10_inversion 21 = .ok (.invokestatic 119, 3) := by decide +kernel
theorem d10_inversion_24 : decode c10_inversion 24 = .ok (.ifCond .ne 5, 3) := by decide +kernel
theorem d10_inversion_27 : decode c10_inversion 27 = .ok (.iconst (-1), 1) := by decide +kernel
theorem d10_inversion_28 : decode c10_inversion 28 = .ok (.ireturn, 1) := by decide +kernel
theorem d10_inversion_29 : decode c10_inversion 29 = .ok (.aload_n 0, 1) := by decide +kernel
theorem d10_inversion_30 : decode c10_inversion 30 = .ok (.getfield 35, 3) := by decide +kernel
theorem d10_inversion_33 : decode c10_inversion 33 = .ok (.iload_n 1, 1) := by decide +kernel
theorem d10_inversion_34 : decode c10_inversion 34 = .ok (.iaload, 1) := by decide +kernel
theorem d10_inversion_35 : decode c10_inversion 35 = .ok (.istore_n 3, 1) := by decide +kernel
theorem d10_inversion_36 : decode c10_inversion 36 = .ok (.aload_n 0, 1) := by decide +kernel
theorem d10_inversion_37 : decode c10_inversion 37 = .ok (.getfield 35, 3) := by decide +kernel
theorem d10_inversion_40 : decode c10_inversion 40 = .ok (.iload_n 1, 1) := by decide +kernel
theorem d10_inversion_41 : decode c10_inversion 41 = .ok (.iload_n 2, 1) := by decide +kernel
theorem d10_inversion_42 : decode c10_inversion 42 = .ok (.ifCond .ge 8, 3) := by decide +kernel
theorem d10_inversion_45 : decode c10_inversion 45 = .ok (.bipush (-2), 2) := by decide +kernel
theorem d10_inversion_47 : decode c10_inversion 47 = .ok (.goto 4, 3) := by decide +kernel
theorem d10_inversion_50 : decode c10_inversion 50 = .ok (.iload_n 2, 1) := by decide +kernel
theorem d10_inversion_51 : decode c10_inversion 51 = .ok (.iastore, 1) := by decide +kernel
theorem d10_inversion_52 : decode c10_inversion 52 = .ok (.aload_n 0, 1) := by decide +kernel
theorem d10_inversion_53 : decode c10_inversion 53 = .ok (.iconst 0, 1) := by decide +kernel
theorem d10_inversion_54 : decode c10_inversion 54 = .ok (.putfield 123, 3) := by decide +kernel
theorem d10_inversion_57 : decode c10_inversion 57 = .ok (.iload_n 3, 1) := by decide +kernel
theorem d10_inversion_58 : decode c10_inversion 58 = .ok (.ireturn, 1) := by decide +kernel
def t10_inversion (l : Launch) (Po : ri_O) : List ri_S := [i_al 1 0,
  i_con 2 0,
  i_put 3 10 0 ri_isI,
  i_al 4 0,
  i_il 5 1,
  i_callV 6 2 10 (ri_Ev l y10_noPlace w10_noPlace r10_noPlace 0 0) 0 0 0 0,
  i_if 7 13 (fun x => ¬ x = 0),
  i_il 8 2,
  i_i2l 9,
  i_lcon 10 (-1),
  i_lcon 11 3,
  i_call 12 3 (ri_Ev l y10_in w10_in r10_in 0 0) 0 0 0 0,
  i_if 13 15 (fun x => ¬ x = 0),
  i_con 14 (-1),
  i_ret Po 0 0,
  i_al 16 0,
  i_get 17 10 10,
  i_il 18 1,
  i_ald 19 0,
  i_is 20 3,
  i_al 21 0,
  i_get 22 10 10,
  i_il 23 1,
  i_il 24 2,
  i_if 25 27 (fun x => 0 ≤ x),
  i_con 26 (-2),
  i_goto 28,
  i_il 28 2,
  i_ast 29 0 (fun x => x),
  i_al 30 0,
  i_con 31 0,
  i_put 32 10 26 ri_isI,
  i_il 33 3,
  i_ret Po 0 0]
set_option maxRecDepth 20000 in
set_option maxHeartbeats 4000000 in
theorem z10_inversion (l : Launch) (Po : ri_O) (p : Program) (e : Env) (s : State) (m : MethodId) (args : Array Value) (below : List Frame) (meth : Method) (c : Code) (D : va_G) (ka : Nat → ClassId) (sa : Nat → Nat) (base : Nat) (X : ri_X p s m args c c10_inversion 4 w10_inversion "ChoraleSearchModel" D ka sa base) (hret : meth.sig.returnType = (some .int)) (hlocks : meth.locks = false) (hname : meth.name = "inversion") : ri_clo (ri_W p l e r10_inversion s m args below meth c D ka sa base 4 (MQ below (ri_Qc D ka sa base Po) args s 0 0 (fun q => base ≤ q)) p10_inversion) (t10_inversion l Po) := by
  refine ri_clo_of ?_
  unfold t10_inversion
  exact ⟨s_aload_n X d10_inversion_0 rfl rfl,
    s_iconst X d10_inversion_1 rfl rfl,
    s_put X (ci := 10) (f := 0) rfl (fun w h => List.mem_cons_of_mem _ (uC_10 w h)) (by decide) tC_10 oC_10 nC_10 rfl ri_ok_int (List.mem_cons_of_mem _ mgw_814) d10_inversion_2 rfl,
    s_aload_n X d10_inversion_5 rfl rfl,
    s_iload_n X d10_inversion_6 rfl rfl,
    s_callV ri_NW_ok X (na := 1) (ci := 10) rfl ⟨ri_cB X 1 mgw_944 (List.mem_cons_of_mem _ mgw_12) (List.mem_cons_of_mem _ mgw_941) (by decide +kernel) rfl rfl ⟨by decide, by decide⟩, X.2.2.2.2.1 _ (List.mem_cons_of_mem _ mgw_943), X.2.2.2.2.1 _ (List.mem_cons_of_mem _ mgp_77)⟩ d10_inversion_7 rfl,
    s_if_ne X d10_inversion_10 rfl rfl,
    s_iload_n X d10_inversion_13 rfl rfl,
    s_i2l X d10_inversion_14 rfl,
    s_ldc2 X d10_inversion_15 (List.mem_cons_of_mem _ mgw_955) rfl,
    s_ldc2 X d10_inversion_18 (List.mem_cons_of_mem _ mgw_940) rfl,
    s_callS ri_NW_ok X ⟨ri_cB X 3 mgw_930 (List.mem_cons_of_mem _ mgw_12) (List.mem_cons_of_mem _ mgw_928) (by decide +kernel) rfl rfl ⟨by decide, by decide⟩, X.2.2.2.2.1 _ (List.mem_cons_of_mem _ mgw_929)⟩ d10_inversion_21 rfl,
    s_if_ne X d10_inversion_24 rfl rfl,
    s_iconst X d10_inversion_27 rfl rfl,
    s_iret X hret hlocks d10_inversion_28,
    s_aload_n X d10_inversion_29 rfl rfl,
    s_get X (ci := 10) (f := 10) rfl (fun w h => List.mem_cons_of_mem _ (uC_10 w h)) (by decide) (List.mem_cons_of_mem _ mgw_824) d10_inversion_30 rfl,
    s_iload_n X d10_inversion_33 rfl rfl,
    s_iald X rfl d10_inversion_34 rfl,
    s_istore_n X d10_inversion_35 rfl (by decide) rfl,
    s_aload_n X d10_inversion_36 rfl rfl,
    s_get X (ci := 10) (f := 10) rfl (fun w h => List.mem_cons_of_mem _ (uC_10 w h)) (by decide) (List.mem_cons_of_mem _ mgw_824) d10_inversion_37 rfl,
    s_iload_n X d10_inversion_40 rfl rfl,
    s_iload_n X d10_inversion_41 rfl rfl,
    s_if_ge X d10_inversion_42 rfl rfl,
    s_bipush X d10_inversion_45 rfl rfl,
    s_goto X d10_inversion_47 rfl,
    s_iload_n X d10_inversion_50 rfl rfl,
    s_iast X rfl d10_inversion_51 rfl,
    s_aload_n X d10_inversion_52 rfl rfl,
    s_iconst X d10_inversion_53 rfl rfl,
    s_put X (ci := 10) (f := 26) rfl (fun w h => List.mem_cons_of_mem _ (uC_10 w h)) (by decide) tC_10 oC_10 nC_10 rfl ri_ok_int (List.mem_cons_of_mem _ mgw_840) d10_inversion_54 rfl,
    s_iload_n X d10_inversion_57 rfl rfl,
    s_iret X hret hlocks d10_inversion_58, trivial⟩
theorem d10_fermata_0 : decode c10_fermata 0 = .ok (.aload_n 0, 1) := by decide +kernel
theorem d10_fermata_1 : decode c10_fermata 1 = .ok (.iconst 0, 1) := by decide +kernel
theorem d10_fermata_2 : decode c10_fermata 2 = .ok (.putfield 1, 3) := by decide +kernel
theorem d10_fermata_5 : decode c10_fermata 5 = .ok (.aload_n 0, 1) := by decide +kernel
theorem d10_fermata_6 : decode c10_fermata 6 = .ok (.iload_n 1, 1) := by decide +kernel
theorem d10_fermata_7 : decode c10_fermata 7 = .ok (.invokevirtual 130, 3) := by decide +kernel
theorem d10_fermata_10 : decode c10_fermata 10 = .ok (.ifCond .eq 5, 3) := by decide +kernel
theorem d10_fermata_13 : decode c10_fermata 13 = .ok (.iconst (-1), 1) := by decide +kernel
theorem d10_fermata_14 : decode c10_fermata 14 = .ok (.ireturn, 1) := by decide +kernel
theorem d10_fermata_15 : decode c10_fermata 15 = .ok (.aload_n 0, 1) := by decide +kernel
theorem d10_fermata_16 : decode c10_fermata 16 = .ok (.getfield 38, 3) := by decide +kernel
theorem d10_fermata_19 : decode c10_fermata 19 = .ok (.iload_n 1, 1) := by decide +kernel
theorem d10_fermata_20 : decode c10_fermata 20 = .ok (.baload, 1) := by decide +kernel
theorem d10_fermata_21 : decode c10_fermata 21 = .ok (.ifCond .eq 7, 3) := by decide +kernel
theorem d10_fermata_24 : decode c10_fermata 24 = .ok (.iconst 1, 1) := by decide +kernel
theorem d10_fermata_25 : decode c10_fermata 25 = .ok (.goto 4, 3) := by decide +kernel
theorem d10_fermata_28 : decode c10_fermata 28 = .ok (.iconst 0, 1) := by decide +kernel
theorem d10_fermata_29 : decode c10_fermata 29 = .ok (.istore_n 3, 1) := by decide +kernel
theorem d10_fermata_30 : decode c10_fermata 30 = .ok (.aload_n 0, 1) := by decide +kernel
theorem d10_fermata_31 : decode c10_fermata 31 = .ok (.getfield 38, 3) := by decide +kernel
theorem d10_fermata_34 : decode c10_fermata 34 = .ok (.iload_n 1, 1) := by decide +kernel
theorem d10_fermata_35 : decode c10_fermata 35 = .ok (.iload_n 2, 1) := by decide +kernel
theorem d10_fermata_36 : decode c10_fermata 36 = .ok (.bastore, 1) := by decide +kernel
theorem d10_fermata_37 : decode c10_fermata 37 = .ok (.aload_n 0, 1) := by decide +kernel
theorem d10_fermata_38 : decode c10_fermata 38 = .ok (.iconst 0, 1) := by decide +kernel
theorem d10_fermata_39 : decode c10_fermata 39 = .ok (.putfield 123, 3) := by decide +kernel
theorem d10_fermata_42 : decode c10_fermata 42 = .ok (.iload_n 3, 1) := by decide +kernel
theorem d10_fermata_43 : decode c10_fermata 43 = .ok (.ireturn, 1) := by decide +kernel
def t10_fermata (l : Launch) (Po : ri_O) : List ri_S := [i_al 1 0,
  i_con 2 0,
  i_put 3 10 0 ri_isI,
  i_al 4 0,
  i_il 5 1,
  i_callV 6 2 10 (ri_Ev l y10_noPlace w10_noPlace r10_noPlace 0 0) 0 0 0 0,
  i_if 7 9 (fun x => x = 0),
  i_con 8 (-1),
  i_ret Po 0 0,
  i_al 10 0,
  i_get 11 10 11,
  i_il 12 1,
  i_ald 13 1,
  i_if 14 16 (fun x => x = 0),
  i_con 15 1,
  i_goto 17,
  i_con 17 0,
  i_is 18 3,
  i_al 19 0,
  i_get 20 10 11,
  i_il 21 1,
  i_il 22 2,
  i_ast 23 1 (fun x => vp_nar .boolean x),
  i_al 24 0,
  i_con 25 0,
  i_put 26 10 26 ri_isI,
  i_il 27 3,
  i_ret Po 0 0]
set_option maxRecDepth 20000 in
set_option maxHeartbeats 4000000 in
theorem z10_fermata (l : Launch) (Po : ri_O) (p : Program) (e : Env) (s : State) (m : MethodId) (args : Array Value) (below : List Frame) (meth : Method) (c : Code) (D : va_G) (ka : Nat → ClassId) (sa : Nat → Nat) (base : Nat) (X : ri_X p s m args c c10_fermata 4 w10_fermata "ChoraleSearchModel" D ka sa base) (hret : meth.sig.returnType = (some .int)) (hlocks : meth.locks = false) (hname : meth.name = "fermata") : ri_clo (ri_W p l e r10_fermata s m args below meth c D ka sa base 4 (MQ below (ri_Qc D ka sa base Po) args s 0 0 (fun q => base ≤ q)) p10_fermata) (t10_fermata l Po) := by
  refine ri_clo_of ?_
  unfold t10_fermata
  exact ⟨s_aload_n X d10_fermata_0 rfl rfl,
    s_iconst X d10_fermata_1 rfl rfl,
    s_put X (ci := 10) (f := 0) rfl (fun w h => List.mem_cons_of_mem _ (uC_10 w h)) (by decide) tC_10 oC_10 nC_10 rfl ri_ok_int (List.mem_cons_of_mem _ mgw_814) d10_fermata_2 rfl,
    s_aload_n X d10_fermata_5 rfl rfl,
    s_iload_n X d10_fermata_6 rfl rfl,
    s_callV ri_NW_ok X (na := 1) (ci := 10) rfl ⟨ri_cB X 1 mgw_944 (List.mem_cons_of_mem _ mgw_12) (List.mem_cons_of_mem _ mgw_941) (by decide +kernel) rfl rfl ⟨by decide, by decide⟩, X.2.2.2.2.1 _ (List.mem_cons_of_mem _ mgw_943), X.2.2.2.2.1 _ (List.mem_cons_of_mem _ mgp_77)⟩ d10_fermata_7 rfl,
    s_if_eq X d10_fermata_10 rfl rfl,
    s_iconst X d10_fermata_13 rfl rfl,
    s_iret X hret hlocks d10_fermata_14,
    s_aload_n X d10_fermata_15 rfl rfl,
    s_get X (ci := 10) (f := 11) rfl (fun w h => List.mem_cons_of_mem _ (uC_10 w h)) (by decide) (List.mem_cons_of_mem _ mgw_825) d10_fermata_16 rfl,
    s_iload_n X d10_fermata_19 rfl rfl,
    s_zald X rfl d10_fermata_20 rfl,
    s_if_eq X d10_fermata_21 rfl rfl,
    s_iconst X d10_fermata_24 rfl rfl,
    s_goto X d10_fermata_25 rfl,
    s_iconst X d10_fermata_28 rfl rfl,
    s_istore_n X d10_fermata_29 rfl (by decide) rfl,
    s_aload_n X d10_fermata_30 rfl rfl,
    s_get X (ci := 10) (f := 11) rfl (fun w h => List.mem_cons_of_mem _ (uC_10 w h)) (by decide) (List.mem_cons_of_mem _ mgw_825) d10_fermata_31 rfl,
    s_iload_n X d10_fermata_34 rfl rfl,
    s_iload_n X d10_fermata_35 rfl rfl,
    s_zast X rfl d10_fermata_36 rfl,
    s_aload_n X d10_fermata_37 rfl rfl,
    s_iconst X d10_fermata_38 rfl rfl,
    s_put X (ci := 10) (f := 26) rfl (fun w h => List.mem_cons_of_mem _ (uC_10 w h)) (by decide) tC_10 oC_10 nC_10 rfl ri_ok_int (List.mem_cons_of_mem _ mgw_840) d10_fermata_39 rfl,
    s_iload_n X d10_fermata_42 rfl rfl,
    s_iret X hret hlocks d10_fermata_43, trivial⟩
theorem d10_style_0 : decode c10_style 0 = .ok (.aload_n 0, 1) := by decide +kernel
theorem d10_style_1 : decode c10_style 1 = .ok (.iconst 0, 1) := by decide +kernel
theorem d10_style_2 : decode c10_style 2 = .ok (.putfield 1, 3) := by decide +kernel
theorem d10_style_5 : decode c10_style 5 = .ok (.iload_n 1, 1) := by decide +kernel
theorem d10_style_6 : decode c10_style 6 = .ok (.i2l, 1) := by decide +kernel
theorem d10_style_7 : decode c10_style 7 = .ok (.lconst 0, 1) := by decide +kernel
theorem d10_style_8 : decode c10_style 8 = .ok (.ldc2_w 140, 3) := by decide +kernel
theorem d10_style_11 : decode c10_style 11 = .ok (.invokestatic 119, 3) := by decide +kernel
theorem d10_style_14 : decode c10_style 14 = .ok (.ifCond .ne 5, 3) := by decide +kernel
theorem d10_style_17 : decode c10_style 17 = .ok (.iconst (-1), 1) := by decide +kernel
theorem d10_style_18 : decode c10_style 18 = .ok (.ireturn, 1) := by decide +kernel
theorem d10_style_19 : decode c10_style 19 = .ok (.aload_n 0, 1) := by decide +kernel
theorem d10_style_20 : decode c10_style 20 = .ok (.getfield 42, 3) := by decide +kernel
theorem d10_style_23 : decode c10_style 23 = .ok (.iload_n 1, 1) := by decide +kernel
theorem d10_style_24 : decode c10_style 24 = .ok (.baload, 1) := by decide +kernel
theorem d10_style_25 : decode c10_style 25 = .ok (.ifCond .eq 7, 3) := by decide +kernel
theorem d10_style_28 : decode c10_style 28 = .ok (.iconst 1, 1) := by decide +kernel
theorem d10_style_29 : decode c10_style 29 = .ok (.goto 4, 3) := by decide +kernel
theorem d10_style_32 : decode c10_style 32 = .ok (.iconst 0, 1) := by decide +kernel
theorem d10_style_33 : decode c10_style 33 = .ok (.istore_n 3, 1) := by decide +kernel
theorem d10_style_34 : decode c10_style 34 = .ok (.aload_n 0, 1) := by decide +kernel
theorem d10_style_35 : decode c10_style 35 = .ok (.getfield 42, 3) := by decide +kernel
theorem d10_style_38 : decode c10_style 38 = .ok (.iload_n 1, 1) := by decide +kernel
theorem d10_style_39 : decode c10_style 39 = .ok (.iload_n 2, 1) := by decide +kernel
theorem d10_style_40 : decode c10_style 40 = .ok (.bastore, 1) := by decide +kernel
theorem d10_style_41 : decode c10_style 41 = .ok (.aload_n 0, 1) := by decide +kernel
theorem d10_style_42 : decode c10_style 42 = .ok (.iconst 0, 1) := by decide +kernel
theorem d10_style_43 : decode c10_style 43 = .ok (.putfield 123, 3) := by decide +kernel
theorem d10_style_46 : decode c10_style 46 = .ok (.iload_n 3, 1) := by decide +kernel
theorem d10_style_47 : decode c10_style 47 = .ok (.ireturn, 1) := by decide +kernel
def t10_style (l : Launch) (Po : ri_O) : List ri_S := [i_al 1 0,
  i_con 2 0,
  i_put 3 10 0 ri_isI,
  i_il 4 1,
  i_i2l 5,
  i_lcon 6 0,
  i_lcon 7 12,
  i_call 8 3 (ri_Ev l y10_in w10_in r10_in 0 0) 0 0 0 0,
  i_if 9 11 (fun x => ¬ x = 0),
  i_con 10 (-1),
  i_ret Po 0 0,
  i_al 12 0,
  i_get 13 10 12,
  i_il 14 1,
  i_ald 15 1,
  i_if 16 18 (fun x => x = 0),
  i_con 17 1,
  i_goto 19,
  i_con 19 0,
  i_is 20 3,
  i_al 21 0,
  i_get 22 10 12,
  i_il 23 1,
  i_il 24 2,
  i_ast 25 1 (fun x => vp_nar .boolean x),
  i_al 26 0,
  i_con 27 0,
  i_put 28 10 26 ri_isI,
  i_il 29 3,
  i_ret Po 0 0]
set_option maxRecDepth 20000 in
set_option maxHeartbeats 4000000 in
theorem z10_style (l : Launch) (Po : ri_O) (p : Program) (e : Env) (s : State) (m : MethodId) (args : Array Value) (below : List Frame) (meth : Method) (c : Code) (D : va_G) (ka : Nat → ClassId) (sa : Nat → Nat) (base : Nat) (X : ri_X p s m args c c10_style 4 w10_style "ChoraleSearchModel" D ka sa base) (hret : meth.sig.returnType = (some .int)) (hlocks : meth.locks = false) (hname : meth.name = "style") : ri_clo (ri_W p l e r10_style s m args below meth c D ka sa base 4 (MQ below (ri_Qc D ka sa base Po) args s 0 0 (fun q => base ≤ q)) p10_style) (t10_style l Po) := by
  refine ri_clo_of ?_
  unfold t10_style
  exact ⟨s_aload_n X d10_style_0 rfl rfl,
    s_iconst X d10_style_1 rfl rfl,
    s_put X (ci := 10) (f := 0) rfl (fun w h => List.mem_cons_of_mem _ (uC_10 w h)) (by decide) tC_10 oC_10 nC_10 rfl ri_ok_int (List.mem_cons_of_mem _ mgw_814) d10_style_2 rfl,
    s_iload_n X d10_style_5 rfl rfl,
    s_i2l X d10_style_6 rfl,
    s_lconst X d10_style_7 rfl rfl,
    s_ldc2 X d10_style_8 (List.mem_cons_of_mem _ mgw_956) rfl,
    s_callS ri_NW_ok X ⟨ri_cB X 3 mgw_930 (List.mem_cons_of_mem _ mgw_12) (List.mem_cons_of_mem _ mgw_928) (by decide +kernel) rfl rfl ⟨by decide, by decide⟩, X.2.2.2.2.1 _ (List.mem_cons_of_mem _ mgw_929)⟩ d10_style_11 rfl,
    s_if_ne X d10_style_14 rfl rfl,
    s_iconst X d10_style_17 rfl rfl,
    s_iret X hret hlocks d10_style_18,
    s_aload_n X d10_style_19 rfl rfl,
    s_get X (ci := 10) (f := 12) rfl (fun w h => List.mem_cons_of_mem _ (uC_10 w h)) (by decide) (List.mem_cons_of_mem _ mgw_826) d10_style_20 rfl,
    s_iload_n X d10_style_23 rfl rfl,
    s_zald X rfl d10_style_24 rfl,
    s_if_eq X d10_style_25 rfl rfl,
    s_iconst X d10_style_28 rfl rfl,
    s_goto X d10_style_29 rfl,
    s_iconst X d10_style_32 rfl rfl,
    s_istore_n X d10_style_33 rfl (by decide) rfl,
    s_aload_n X d10_style_34 rfl rfl,
    s_get X (ci := 10) (f := 12) rfl (fun w h => List.mem_cons_of_mem _ (uC_10 w h)) (by decide) (List.mem_cons_of_mem _ mgw_826) d10_style_35 rfl,
    s_iload_n X d10_style_38 rfl rfl,
    s_iload_n X d10_style_39 rfl rfl,
    s_zast X rfl d10_style_40 rfl,
    s_aload_n X d10_style_41 rfl rfl,
    s_iconst X d10_style_42 rfl rfl,
    s_put X (ci := 10) (f := 26) rfl (fun w h => List.mem_cons_of_mem _ (uC_10 w h)) (by decide) tC_10 oC_10 nC_10 rfl ri_ok_int (List.mem_cons_of_mem _ mgw_840) d10_style_43 rfl,
    s_iload_n X d10_style_46 rfl rfl,
    s_iret X hret hlocks d10_style_47, trivial⟩
theorem d10_cost_0 : decode c10_cost 0 = .ok (.aload_n 0, 1) := by decide +kernel
theorem d10_cost_1 : decode c10_cost 1 = .ok (.iconst 0, 1) := by decide +kernel
theorem d10_cost_2 : decode c10_cost 2 = .ok (.putfield 1, 3) := by decide +kernel
theorem d10_cost_5 : decode c10_cost 5 = .ok (.iload_n 1, 1) := by decide +kernel
theorem d10_cost_6 : decode c10_cost 6 = .ok (.i2l, 1) := by decide +kernel
theorem d10_cost_7 : decode c10_cost 7 = .ok (.lconst 0, 1) := by decide +kernel
theorem d10_cost_8 : decode c10_cost 8 = .ok (.ldc2_w 142, 3) := by decide +kernel
theorem d10_cost_11 : decode c10_cost 11 = .ok (.invokestatic 119, 3) := by decide +kernel
theorem d10_cost_14 : decode c10_cost 14 = .ok (.ifCond .eq 15, 3) := by decide +kernel
theorem d10_cost_17 : decode c10_cost 17 = .ok (.iload_n 2, 1) := by decide +kernel
theorem d10_cost_18 : decode c10_cost 18 = .ok (.i2l, 1) := by decide +kernel
theorem d10_cost_19 : decode c10_cost 19 = .ok (.lconst 0, 1) := by decide +kernel
theorem d10_cost_20 : decode c10_cost 20 = .ok (.ldc2_w 144, 3) := by decide +kernel
theorem d10_cost_23 : decode c10_cost 23 = .ok (.invokestatic 119, 3) := by decide +kernel
theorem d10_cost_26 : decode c10_cost 26 = .ok (.ifCond .ne 5, 3) := by decide +kernel
theorem d10_cost_29 : decode c10_cost 29 = .ok (.iconst (-1), 1) := by decide +kernel
theorem d10_cost_30 : decode c10_cost 30 = .ok (.ireturn, 1) := by decide +kernel
theorem d10_cost_31 : decode c10_cost 31 = .ok (.aload_n 0, 1) := by decide +kernel
theorem d10_cost_32 : decode c10_cost 32 = .ok (.getfield 45, 3) := by decide +kernel
theorem d10_cost_35 : decode c10_cost 35 = .ok (.iload_n 1, 1) := by decide +kernel
theorem d10_cost_36 : decode c10_cost 36 = .ok (.iaload, 1) := by decide +kernel
theorem d10_cost_37 : decode c10_cost 37 = .ok (.istore_n 3, 1) := by decide +kernel
theorem d10_cost_38 : decode c10_cost 38 = .ok (.aload_n 0, 1) := by decide +kernel
theorem d10_cost_39 : decode c10_cost 39 = .ok (.getfield 45, 3) := by decide +kernel
theorem d10_cost_42 : decode c10_cost 42 = .ok (.iload_n 1, 1) := by decide +kernel
theorem d10_cost_43 : decode c10_cost 43 = .ok (.iload_n 2, 1) := by decide +kernel
theorem d10_cost_44 : decode c10_cost 44 = .ok (.iastore, 1) := by decide +kernel
theorem d10_cost_45 : decode c10_cost 45 = .ok (.aload_n 0, 1) := by decide +kernel
theorem d10_cost_46 : decode c10_cost 46 = .ok (.iconst 0, 1) := by decide +kernel
theorem d10_cost_47 : decode c10_cost 47 = .ok (.putfield 123, 3) := by decide +kernel
theorem d10_cost_50 : decode c10_cost 50 = .ok (.iload_n 3, 1) := by decide +kernel
theorem d10_cost_51 : decode c10_cost 51 = .ok (.ireturn, 1) := by decide +kernel
def t10_cost (l : Launch) (Po : ri_O) : List ri_S := [i_al 1 0,
  i_con 2 0,
  i_put 3 10 0 ri_isI,
  i_il 4 1,
  i_i2l 5,
  i_lcon 6 0,
  i_lcon 7 8,
  i_call 8 3 (ri_Ev l y10_in w10_in r10_in 0 0) 0 0 0 0,
  i_if 9 15 (fun x => x = 0),
  i_il 10 2,
  i_i2l 11,
  i_lcon 12 0,
  i_lcon 13 1000,
  i_call 14 3 (ri_Ev l y10_in w10_in r10_in 0 0) 0 0 0 0,
  i_if 15 17 (fun x => ¬ x = 0),
  i_con 16 (-1),
  i_ret Po 0 0,
  i_al 18 0,
  i_get 19 10 13,
  i_il 20 1,
  i_ald 21 0,
  i_is 22 3,
  i_al 23 0,
  i_get 24 10 13,
  i_il 25 1,
  i_il 26 2,
  i_ast 27 0 (fun x => x),
  i_al 28 0,
  i_con 29 0,
  i_put 30 10 26 ri_isI,
  i_il 31 3,
  i_ret Po 0 0]
set_option maxRecDepth 20000 in
set_option maxHeartbeats 4000000 in
theorem z10_cost (l : Launch) (Po : ri_O) (p : Program) (e : Env) (s : State) (m : MethodId) (args : Array Value) (below : List Frame) (meth : Method) (c : Code) (D : va_G) (ka : Nat → ClassId) (sa : Nat → Nat) (base : Nat) (X : ri_X p s m args c c10_cost 4 w10_cost "ChoraleSearchModel" D ka sa base) (hret : meth.sig.returnType = (some .int)) (hlocks : meth.locks = false) (hname : meth.name = "cost") : ri_clo (ri_W p l e r10_cost s m args below meth c D ka sa base 4 (MQ below (ri_Qc D ka sa base Po) args s 0 0 (fun q => base ≤ q)) p10_cost) (t10_cost l Po) := by
  refine ri_clo_of ?_
  unfold t10_cost
  exact ⟨s_aload_n X d10_cost_0 rfl rfl,
    s_iconst X d10_cost_1 rfl rfl,
    s_put X (ci := 10) (f := 0) rfl (fun w h => List.mem_cons_of_mem _ (uC_10 w h)) (by decide) tC_10 oC_10 nC_10 rfl ri_ok_int (List.mem_cons_of_mem _ mgw_814) d10_cost_2 rfl,
    s_iload_n X d10_cost_5 rfl rfl,
    s_i2l X d10_cost_6 rfl,
    s_lconst X d10_cost_7 rfl rfl,
    s_ldc2 X d10_cost_8 (List.mem_cons_of_mem _ mgw_973) rfl,
    s_callS ri_NW_ok X ⟨ri_cB X 3 mgw_930 (List.mem_cons_of_mem _ mgw_12) (List.mem_cons_of_mem _ mgw_928) (by decide +kernel) rfl rfl ⟨by decide, by decide⟩, X.2.2.2.2.1 _ (List.mem_cons_of_mem _ mgw_929)⟩ d10_cost_11 rfl,
    s_if_eq X d10_cost_14 rfl rfl,
    s_iload_n X d10_cost_17 rfl rfl,
    s_i2l X d10_cost_18 rfl,
    s_lconst X d10_cost_19 rfl rfl,
    s_ldc2 X d10_cost_20 (List.mem_cons_of_mem _ mgw_974) rfl,
    s_callS ri_NW_ok X ⟨ri_cB X 3 mgw_930 (List.mem_cons_of_mem _ mgw_12) (List.mem_cons_of_mem _ mgw_928) (by decide +kernel) rfl rfl ⟨by decide, by decide⟩, X.2.2.2.2.1 _ (List.mem_cons_of_mem _ mgw_929)⟩ d10_cost_23 rfl,
    s_if_ne X d10_cost_26 rfl rfl,
    s_iconst X d10_cost_29 rfl rfl,
    s_iret X hret hlocks d10_cost_30,
    s_aload_n X d10_cost_31 rfl rfl,
    s_get X (ci := 10) (f := 13) rfl (fun w h => List.mem_cons_of_mem _ (uC_10 w h)) (by decide) (List.mem_cons_of_mem _ mgw_827) d10_cost_32 rfl,
    s_iload_n X d10_cost_35 rfl rfl,
    s_iald X rfl d10_cost_36 rfl,
    s_istore_n X d10_cost_37 rfl (by decide) rfl,
    s_aload_n X d10_cost_38 rfl rfl,
    s_get X (ci := 10) (f := 13) rfl (fun w h => List.mem_cons_of_mem _ (uC_10 w h)) (by decide) (List.mem_cons_of_mem _ mgw_827) d10_cost_39 rfl,
    s_iload_n X d10_cost_42 rfl rfl,
    s_iload_n X d10_cost_43 rfl rfl,
    s_iast X rfl d10_cost_44 rfl,
    s_aload_n X d10_cost_45 rfl rfl,
    s_iconst X d10_cost_46 rfl rfl,
    s_put X (ci := 10) (f := 26) rfl (fun w h => List.mem_cons_of_mem _ (uC_10 w h)) (by decide) tC_10 oC_10 nC_10 rfl ri_ok_int (List.mem_cons_of_mem _ mgw_840) d10_cost_47 rfl,
    s_iload_n X d10_cost_50 rfl rfl,
    s_iret X hret hlocks d10_cost_51, trivial⟩
theorem d10_range_0 : decode c10_range 0 = .ok (.aload_n 0, 1) := by decide +kernel
theorem d10_range_1 : decode c10_range 1 = .ok (.iconst 0, 1) := by decide +kernel
theorem d10_range_2 : decode c10_range 2 = .ok (.putfield 1, 3) := by decide +kernel
theorem d10_range_5 : decode c10_range 5 = .ok (.iload_n 1, 1) := by decide +kernel
theorem d10_range_6 : decode c10_range 6 = .ok (.i2l, 1) := by decide +kernel
theorem d10_range_7 : decode c10_range 7 = .ok (.lconst 0, 1) := by decide +kernel
theorem d10_range_8 : decode c10_range 8 = .ok (.ldc2_w 128, 3) := by decide +kernel
theorem d10_range_11 : decode c10_range 11 = .ok (.invokestatic 119, 3) := by decide +kernel
theorem d10_range_14 : decode c10_range 14 = .ok (.ifCond .eq 30, 3) := by decide +kernel
theorem d10_range_17 : decode c10_range 17 = .ok (.iload_n 2, 1) := by decide +kernel
theorem d10_range_18 : decode c10_range 18 = .ok (.i2l, 1) := by decide +kernel
theorem d10_range_19 : decode c10_range 19 = .ok (.ldc2_w 134, 3) := by decide +kernel
theorem d10_range_22 : decode c10_range 22 = .ok (.ldc2_w 136, 3) := by decide +kernel
theorem d10_range_25 : decode c10_range 25 = .ok (.invokestatic 119, 3) := by decide +kernel
theorem d10_range_28 : decode c10_range 28 = .ok (.ifCond .eq 16, 3) := by decide +kernel
theorem d10_range_31 : decode c10_range 31 = .ok (.iload_n 3, 1) := by decide +kernel
theorem d10_range_32 : decode c10_range 32 = .ok (.i2l, 1) := by decide +kernel
theorem d10_range_33 : decode c10_range 33 = .ok (.iload_n 2, 1) := by decide +kernel
theorem d10_range_34 : decode c10_range 34 = .ok (.i2l, 1) := by decide +kernel
theorem d10_range_35 : decode c10_range 35 = .ok (.ldc2_w 136, 3) := by decide +kernel
theorem d10_range_38 : decode c10_range 38 = .ok (.invokestatic 119, 3) := by decide +kernel
theorem d10_range_41 : decode c10_range 41 = .ok (.ifCond .ne 5, 3) := by decide +kernel
theorem d10_range_44 : decode c10_range 44 = .ok (.iconst (-1), 1) := by decide +kernel
theorem d10_range_45 : decode c10_range 45 = .ok (.ireturn, 1) := by decide +kernel
theorem d10_range_46 : decode c10_range 46 = .ok (.aload_n 0, 1) := by decide +kernel
theorem d10_range_47 : decode c10_range 47 = .ok (.getfield 48, 3) := by decide +kernel
theorem d10_range_50 : decode c10_range 50 = .ok (.iload_n 1, 1) := by decide +kernel
theorem d10_range_51 : decode c10_range 51 = .ok (.iload_n 2, 1) := by decide +kernel
theorem d10_range_52 : decode c10_range 52 = .ok (.iastore, 1) := by decide +kernel
theorem d10_range_53 : decode c10_range 53 = .ok (.aload_n 0, 1) := by decide +kernel
theorem d10_range_54 : decode c10_range 54 = .ok (.getfield 51, 3) := by decide +kernel
theorem d10_range_57 : decode c10_range 57 = .ok (.iload_n 1, 1) := by decide +kernel
theorem d10_range_58 : decode c10_range 58 = .ok (.iload_n 3, 1) := by decide +kernel
theorem d10_range_59 : decode c10_range 59 = .ok (.iastore, 1) := by decide +kernel
theorem d10_range_60 : decode c10_range 60 = .ok (.aload_n 0, 1) := by decide +kernel
theorem d10_range_61 : decode c10_range 61 = .ok (.iconst 0, 1) := by decide +kernel
theorem d10_range_62 : decode c10_range 62 = .ok (.putfield 123, 3) := by decide +kernel
theorem d10_range_65 : decode c10_range 65 = .ok (.iconst 1, 1) := by decide +kernel
theorem d10_range_66 : decode c10_range 66 = .ok (.ireturn, 1) := by decide +kernel
def t10_range (l : Launch) (Po : ri_O) : List ri_S := [i_al 1 0,
  i_con 2 0,
  i_put 3 10 0 ri_isI,
  i_il 4 1,
  i_i2l 5,
  i_lcon 6 0,
  i_lcon 7 3,
  i_call 8 3 (ri_Ev l y10_in w10_in r10_in 0 0) 0 0 0 0,
  i_if 9 22 (fun x => x = 0),
  i_il 10 2,
  i_i2l 11,
  i_lcon 12 36,
  i_lcon 13 84,
  i_call 14 3 (ri_Ev l y10_in w10_in r10_in 0 0) 0 0 0 0,
  i_if 15 22 (fun x => x = 0),
  i_il 16 3,
  i_i2l 17,
  i_il 18 2,
  i_i2l 19,
  i_lcon 20 84,
  i_call 21 3 (ri_Ev l y10_in w10_in r10_in 0 0) 0 0 0 0,
  i_if 22 24 (fun x => ¬ x = 0),
  i_con 23 (-1),
  i_ret Po 0 0,
  i_al 25 0,
  i_get 26 10 14,
  i_il 27 1,
  i_il 28 2,
  i_ast 29 0 (fun x => x),
  i_al 30 0,
  i_get 31 10 15,
  i_il 32 1,
  i_il 33 3,
  i_ast 34 0 (fun x => x),
  i_al 35 0,
  i_con 36 0,
  i_put 37 10 26 ri_isI,
  i_con 38 1,
  i_ret Po 0 0]
set_option maxRecDepth 20000 in
set_option maxHeartbeats 4000000 in
theorem z10_range (l : Launch) (Po : ri_O) (p : Program) (e : Env) (s : State) (m : MethodId) (args : Array Value) (below : List Frame) (meth : Method) (c : Code) (D : va_G) (ka : Nat → ClassId) (sa : Nat → Nat) (base : Nat) (X : ri_X p s m args c c10_range 4 w10_range "ChoraleSearchModel" D ka sa base) (hret : meth.sig.returnType = (some .int)) (hlocks : meth.locks = false) (hname : meth.name = "range") : ri_clo (ri_W p l e r10_range s m args below meth c D ka sa base 4 (MQ below (ri_Qc D ka sa base Po) args s 0 0 (fun q => base ≤ q)) p10_range) (t10_range l Po) := by
  refine ri_clo_of ?_
  unfold t10_range
  exact ⟨s_aload_n X d10_range_0 rfl rfl,
    s_iconst X d10_range_1 rfl rfl,
    s_put X (ci := 10) (f := 0) rfl (fun w h => List.mem_cons_of_mem _ (uC_10 w h)) (by decide) tC_10 oC_10 nC_10 rfl ri_ok_int (List.mem_cons_of_mem _ mgw_814) d10_range_2 rfl,
    s_iload_n X d10_range_5 rfl rfl,
    s_i2l X d10_range_6 rfl,
    s_lconst X d10_range_7 rfl rfl,
    s_ldc2 X d10_range_8 (List.mem_cons_of_mem _ mgw_940) rfl,
    s_callS ri_NW_ok X ⟨ri_cB X 3 mgw_930 (List.mem_cons_of_mem _ mgw_12) (List.mem_cons_of_mem _ mgw_928) (by decide +kernel) rfl rfl ⟨by decide, by decide⟩, X.2.2.2.2.1 _ (List.mem_cons_of_mem _ mgw_929)⟩ d10_range_11 rfl,
    s_if_eq X d10_range_14 rfl rfl,
    s_iload_n X d10_range_17 rfl rfl,
    s_i2l X d10_range_18 rfl,
    s_ldc2 X d10_range_19 (List.mem_cons_of_mem _ mgw_945) rfl,
    s_ldc2 X d10_range_22 (List.mem_cons_of_mem _ mgw_946) rfl,
    s_callS ri_NW_ok X ⟨ri_cB X 3 mgw_930 (List.mem_cons_of_mem _ mgw_12) (List.mem_cons_of_mem _ mgw_928) (by decide +kernel) rfl rfl ⟨by decide, by decide⟩, X.2.2.2.2.1 _ (List.mem_cons_of_mem _ mgw_929)⟩ d10_range_25 rfl,
    s_if_eq X d10_range_28 rfl rfl,
    s_iload_n X d10_range_31 rfl rfl,
    s_i2l X d10_range_32 rfl,
    s_iload_n X d10_range_33 rfl rfl,
    s_i2l X d10_range_34 rfl,
    s_ldc2 X d10_range_35 (List.mem_cons_of_mem _ mgw_946) rfl,
    s_callS ri_NW_ok X ⟨ri_cB X 3 mgw_930 (List.mem_cons_of_mem _ mgw_12) (List.mem_cons_of_mem _ mgw_928) (by decide +kernel) rfl rfl ⟨by decide, by decide⟩, X.2.2.2.2.1 _ (List.mem_cons_of_mem _ mgw_929)⟩ d10_range_38 rfl,
    s_if_ne X d10_range_41 rfl rfl,
    s_iconst X d10_range_44 rfl rfl,
    s_iret X hret hlocks d10_range_45,
    s_aload_n X d10_range_46 rfl rfl,
    s_get X (ci := 10) (f := 14) rfl (fun w h => List.mem_cons_of_mem _ (uC_10 w h)) (by decide) (List.mem_cons_of_mem _ mgw_828) d10_range_47 rfl,
    s_iload_n X d10_range_50 rfl rfl,
    s_iload_n X d10_range_51 rfl rfl,
    s_iast X rfl d10_range_52 rfl,
    s_aload_n X d10_range_53 rfl rfl,
    s_get X (ci := 10) (f := 15) rfl (fun w h => List.mem_cons_of_mem _ (uC_10 w h)) (by decide) (List.mem_cons_of_mem _ mgw_829) d10_range_54 rfl,
    s_iload_n X d10_range_57 rfl rfl,
    s_iload_n X d10_range_58 rfl rfl,
    s_iast X rfl d10_range_59 rfl,
    s_aload_n X d10_range_60 rfl rfl,
    s_iconst X d10_range_61 rfl rfl,
    s_put X (ci := 10) (f := 26) rfl (fun w h => List.mem_cons_of_mem _ (uC_10 w h)) (by decide) tC_10 oC_10 nC_10 rfl ri_ok_int (List.mem_cons_of_mem _ mgw_840) d10_range_62 rfl,
    s_iconst X d10_range_65 rfl rfl,
    s_iret X hret hlocks d10_range_66, trivial⟩
theorem d10_states_0 : decode c10_states 0 = .ok (.aload_n 0, 1) := by decide +kernel
theorem d10_states_1 : decode c10_states 1 = .ok (.iconst 0, 1) := by decide +kernel
theorem d10_states_2 : decode c10_states 2 = .ok (.putfield 1, 3) := by decide +kernel
theorem d10_states_5 : decode c10_states 5 = .ok (.aload_n 0, 1) := by decide +kernel
theorem d10_states_6 : decode c10_states 6 = .ok (.iload_n 1, 1) := by decide +kernel
theorem d10_states_7 : decode c10_states 7 = .ok (.invokevirtual 130, 3) := by decide +kernel
theorem d10_states_10 : decode c10_states 10 = .ok (.ifCond .eq 7, 3) := by decide +kernel
theorem d10_states_13 : decode c10_states 13 = .ok (.iconst (-1), 1) := by decide +kernel
theorem d10_states_14 : decode c10_states 14 = .ok (.goto 10, 3) := by decide +kernel
theorem d10_states_17 : decode c10_states 17 = .ok (.aload_n 0, 1) := by decide +kernel
theorem d10_states_18 : decode c10_states 18 = .ok (.iload_n 1, 1) := by decide +kernel
theorem d10_states_19 : decode c10_states 19 = .ok (.iconst 0, 1) := by decide +kernel
theorem d10_states_20 : decode c10_states 20 = .ok (.iconst 0, 1) := by decide +kernel
theorem d10_states_21 : decode c10_states 21 = .ok (.invokevirtual 175, 3) := by decide +kernel
theorem d10_states_24 : decode c10_states 24 = .ok (.ireturn, 1) := by decide +kernel
def t10_states (l : Launch) (Po : ri_O) : List ri_S := [i_al 1 0,
  i_con 2 0,
  i_put 3 10 0 ri_isI,
  i_al 4 0,
  i_il 5 1,
  i_callV 6 2 10 (ri_Ev l y10_noPlace w10_noPlace r10_noPlace 0 0) 0 0 0 0,
  i_if 7 9 (fun x => x = 0),
  i_con 8 (-1),
  i_goto 14,
  i_al 10 0,
  i_il 11 1,
  i_con 12 0,
  i_con 13 0,
  i_callV 14 4 10 (ri_Ev l y10_findStates w10_findStates r10_findStates 0 0) 0 0 0 0,
  i_ret Po 0 0]
set_option maxRecDepth 20000 in
set_option maxHeartbeats 4000000 in
theorem z10_states (l : Launch) (Po : ri_O) (p : Program) (e : Env) (s : State) (m : MethodId) (args : Array Value) (below : List Frame) (meth : Method) (c : Code) (D : va_G) (ka : Nat → ClassId) (sa : Nat → Nat) (base : Nat) (X : ri_X p s m args c c10_states 2 w10_states "ChoraleSearchModel" D ka sa base) (hret : meth.sig.returnType = (some .int)) (hlocks : meth.locks = false) (hname : meth.name = "states") : ri_clo (ri_W p l e r10_states s m args below meth c D ka sa base 2 (MQ below (ri_Qc D ka sa base Po) args s 0 0 (fun q => base ≤ q)) p10_states) (t10_states l Po) := by
  refine ri_clo_of ?_
  unfold t10_states
  exact ⟨s_aload_n X d10_states_0 rfl rfl,
    s_iconst X d10_states_1 rfl rfl,
    s_put X (ci := 10) (f := 0) rfl (fun w h => List.mem_cons_of_mem _ (uC_10 w h)) (by decide) tC_10 oC_10 nC_10 rfl ri_ok_int (List.mem_cons_of_mem _ mgw_814) d10_states_2 rfl,
    s_aload_n X d10_states_5 rfl rfl,
    s_iload_n X d10_states_6 rfl rfl,
    s_callV ri_NW_ok X (na := 1) (ci := 10) rfl ⟨ri_cB X 1 mgw_944 (List.mem_cons_of_mem _ mgw_12) (List.mem_cons_of_mem _ mgw_941) (by decide +kernel) rfl rfl ⟨by decide, by decide⟩, X.2.2.2.2.1 _ (List.mem_cons_of_mem _ mgw_943), X.2.2.2.2.1 _ (List.mem_cons_of_mem _ mgp_77)⟩ d10_states_7 rfl,
    s_if_eq X d10_states_10 rfl rfl,
    s_iconst X d10_states_13 rfl rfl,
    s_goto X d10_states_14 rfl,
    s_aload_n X d10_states_17 rfl rfl,
    s_iload_n X d10_states_18 rfl rfl,
    s_iconst X d10_states_19 rfl rfl,
    s_iconst X d10_states_20 rfl rfl,
    s_callV ri_NW_ok X (na := 3) (ci := 10) rfl ⟨ri_cB X 3 mgw_986 (List.mem_cons_of_mem _ mgw_12) (List.mem_cons_of_mem _ mgw_983) (by decide +kernel) rfl rfl ⟨by decide, by decide⟩, X.2.2.2.2.1 _ (List.mem_cons_of_mem _ mgw_985), X.2.2.2.2.1 _ (List.mem_cons_of_mem _ mgp_78)⟩ d10_states_21 rfl,
    s_iret X hret hlocks d10_states_24, trivial⟩
theorem d10_findStates_0 : decode c10_findStates 0 = .ok (.iconst 0, 1) := by decide +kernel
theorem d10_findStates_1 : decode c10_findStates 1 = .ok (.istore 4, 2) := by decide +kernel
theorem d10_findStates_3 : decode c10_findStates 3 = .ok (.aload_n 0, 1) := by decide +kernel
theorem d10_findStates_4 : decode c10_findStates 4 = .ok (.iconst 0, 1) := by decide +kernel
theorem d10_findStates_5 : decode c10_findStates 5 = .ok (.putfield 149, 3) := by decide +kernel
theorem d10_findStates_8 : decode c10_findStates 8 = .ok (.iconst 0, 1) := by decide +kernel
theorem d10_findStates_9 : decode c10_findStates 9 = .ok (.istore 5, 2) := by decide +kernel
theorem d10_findStates_11 : decode c10_findStates 11 = .ok (.iload 5, 2) := by decide +kernel
theorem d10_findStates_13 : decode c10_findStates 13 = .ok (.bipush 13, 2) := by decide +kernel
theorem d10_findStates_15 : decode c10_findStates 15 = .ok (.if_icmp .ge 391, 3) := by decide +kernel
theorem d10_findStates_18 : decode c10_findStates 18 = .ok (.aload_n 0, 1) := by decide +kernel
theorem d10_findStates_19 : decode c10_findStates 19 = .ok (.getfield 42, 3) := by decide +kernel
theorem d10_findStates_22 : decode c10_findStates 22 = .ok (.iload 5, 2) := by decide +kernel
theorem d10_findStates_24 : decode c10_findStates 24 = .ok (.baload, 1) := by decide +kernel
theorem d10_findStates_25 : decode c10_findStates 25 = .ok (.ifCond .eq 375, 3) := by decide +kernel
theorem d10_findStates_28 : decode c10_findStates 28 = .ok (.aload_n 0, 1) := by decide +kernel
theorem d10_findStates_29 : decode c10_findStates 29 = .ok (.getfield 32, 3) := by decide +kernel
theorem d10_findStates_32 : decode c10_findStates 32 = .ok (.iload_n 1, 1) := by decide +kernel
theorem d10_findStates_33 : decode c10_findStates 33 = .ok (.iaload, 1) := by decide +kernel
theorem d10_findStates_34 : decode c10_findStates 34 = .ok (.bipush (-2), 2) := by decide +kernel
theorem d10_findStates_36 : decode c10_findStates 36 = .ok (.if_icmp .eq 14, 3) := by decide +kernel
theorem d10_findStates_39 : decode c10_findStates 39 = .ok (.aload_n 0, 1) := by decide +kernel
theorem d10_findStates_40 : decode c10_findStates 40 = .ok (.getfield 32, 3) := by decide +kernel
theorem d10_findStates_43 : decode c10_findStates 43 = .ok (.iload_n 1, 1) := by decide +kernel
theorem d10_findStates_44 : decode c10_findStates 44 = .ok (.iaload, 1) := by decide +kernel
theorem d10_findStates_45 : decode c10_findStates 45 = .ok (.iload 5, 2) := by decide +kernel
theorem d10_findStates_47 : decode c10_findStates 47 = .ok (.if_icmp .ne 353, 3) := by decide +kernel
theorem d10_findStates_50 : decode c10_findStates 50 = .ok (.aload_n 0, 1) := by decide +kernel
theorem d10_findStates_51 : decode c10_findStates 51 = .ok (.getfield 48, 3) := by decide +kernel
theorem d10_findStates_54 : decode c10_findStates 54 = .ok (.iconst 0, 1) := by decide +kernel
theorem d10_findStates_55 : decode c10_findStates 55 = .ok (.iaload, 1) := by decide +kernel
theorem d10_findStates_56 : decode c10_findStates 56 = .ok (.istore 6, 2) := by decide +kernel
theorem d10_findStates_58 : decode c10_findStates 58 = .ok (.iload 6, 2) := by decide +kernel
theorem d10_findStates_60 : decode c10_findStates 60 = .ok (.aload_n 0, 1) := by decide +kernel
theorem d10_findStates_61 : decode c10_findStates 61 = .ok (.getfield 51, 3) := by decide +kernel
theorem d10_findStates_64 : decode c10_findStates 64 = .ok (.iconst 0, 1) := by decide +kernel
theorem d10_findStates_65 : decode c10_findStates 65 = .ok (.iaload, 1) := by decide +kernel
theorem d10_findStates_66 : decode c10_findStates 66 = .ok (.if_icmp .gt 334, 3) := by decide +kernel
theorem d10_findStates_69 : decode c10_findStates 69 = .ok (.aload_n 0, 1) := by decide +kernel
theorem d10_findStates_70 : decode c10_findStates 70 = .ok (.getfield 93, 3) := by decide +kernel
theorem d10_findStates_73 : decode c10_findStates 73 = .ok (.iconst 0, 1) := by decide +kernel
theorem d10_findStates_74 : decode c10_findStates 74 = .ok (.iload 6, 2) := by decide +kernel
theorem d10_findStates_76 : decode c10_findStates 76 = .ok (.iastore, 1) := by decide +kernel
theorem d10_findStates_77 : decode c10_findStates 77 = .ok (.iload_n 3, 1) := by decide +kernel
theorem d10_findStates_78 : decode c10_findStates 78 = .ok (.ifCond .eq 12, 3) := by decide +kernel
theorem d10_findStates_81 : decode c10_findStates 81 = .ok (.aload_n 0, 1) := by decide +kernel
theorem d10_findStates_82 : decode c10_findStates 82 = .ok (.getfield 48, 3) := by decide +kernel
theorem d10_findStates_85 : decode c10_findStates 85 = .ok (.iconst 1, 1) := by decide +kernel
theorem d10_findStates_86 : decode c10_findStates 86 = .ok (.iaload, 1) := by decide +kernel
theorem d10_findStates_87 : decode c10_findStates 87 = .ok (.goto 17, 3) := by decide +kernel
theorem d10_findStates_90 : decode c10_findStates 90 = .ok (.aload_n 0, 1) := by decide +kernel
theorem d10_findStates_91 : decode c10_findStates 91 = .ok (.getfield 48, 3) := by decide +kernel
theorem d10_findStates_94 : decode c10_findStates 94 = .ok (.iconst 1, 1) := by decide +kernel
theorem d10_findStates_95 : decode c10_findStates 95 = .ok (.iaload, 1) := by decide +kernel
theorem d10_findStates_96 : decode c10_findStates 96 = .ok (.iload 6, 2) := by decide +kernel
theorem d10_findStates_98 : decode c10_findStates 98 = .ok (.bipush 12, 2) := by decide +kernel
theorem d10_findStates_100 : decode c10_findStates 100 = .ok (.isub, 1) := by decide +kernel
theorem d10_findStates_101 : decode c10_findStates 101 = .ok (.invokestatic 152, 3) := by decide +kernel
theorem d10_findStates_104 : decode c10_findStates 104 = .ok (.istore 7, 2) := by decide +kernel
theorem d10_findStates_106 : decode c10_findStates 106 = .ok (.iload 7, 2) := by decide +kernel
theorem d10_findStates_108 : decode c10_findStates 108 = .ok (.iload_n 3, 1) := by decide +kernel
theorem d10_findStates_109 : decode c10_findStates 109 = .ok (.ifCond .eq 12, 3) := by decide +kernel
theorem d10_findStates_112 : decode c10_findStates 112 = .ok (.aload_n 0, 1) := by decide +kernel
theorem d10_findStates_113 : decode c10_findStates 113 = .ok (.getfield 51, 3) := by decide +kernel
theorem d10_findStates_116 : decode c10_findStates 116 = .ok (.iconst 1, 1) := by decide +kernel
theorem d10_findStates_117 : decode c10_findStates 117 = .ok (.iaload, 1) := by decide +kernel
theorem d10_findStates_118 : decode c10_findStates 118 = .ok (.goto 14, 3) := by decide +kernel
theorem d10_findStates_121 : decode c10_findStates 121 = .ok (.aload_n 0, 1) := by decide +kernel
theorem d10_findStates_122 : decode c10_findStates 122 = .ok (.getfield 51, 3) := by decide +kernel
theorem d10_findStates_125 : decode c10_findStates 125 = .ok (.iconst 1, 1) := by decide +kernel
theorem d10_findStates_126 : decode c10_findStates 126 = .ok (.iaload, 1) := by decide +kernel
theorem d10_findStates_127 : decode c10_findStates 127 = .ok (.iload 6, 2) := by decide +kernel
theorem d10_findStates_129 : decode c10_findStates 129 = .ok (.invokestatic 155, 3) := by decide +kernel
theorem d10_findStates_132 : decode c10_findStates 132 = .ok (.if_icmp .gt 262, 3) := by decide +kernel
theorem d10_findStates_135 : decode c10_findStates 135 = .ok (.aload_n 0, 1) := by decide +kernel
theorem d10_findStates_136 : decode c10_findStates 136 = .ok (.iload_n 1, 1) := by decide +kernel
theorem d10_findStates_137 : decode c10_findStates 137 = .ok (.iconst 0, 1) := by decide +kernel
theorem d10_findStates_138 : decode c10_findStates 138 = .ok (.iload 6, 2) := by decide +kernel
theorem d10_findStates_140 : decode c10_findStates 140 = .ok (.iload 5, 2) := by decide +kernel
theorem d10_findStates_142 : decode c10_findStates 142 = .ok (.invokevirtual 158, 3) := by decide +kernel
theorem d10_findStates_145 : decode c10_findStates 145 = .ok (.ifCond .eq 249, 3) := by decide +kernel
theorem d10_findStates_148 : decode c10_findStates 148 = .ok (.aload_n 0, 1) := by decide +kernel
theorem d10_findStates_149 : decode c10_findStates 149 = .ok (.getfield 93, 3) := by decide +kernel
theorem d10_findStates_152 : decode c10_findStates 152 = .ok (.iconst 1, 1) := by decide +kernel
theorem d10_findStates_153 : decode c10_findStates 153 = .ok (.iload 7, 2) := by decide +kernel
theorem d10_findStates_155 : decode c10_findStates 155 = .ok (.iastore, 1) := by decide +kernel
theorem d10_findStates_156 : decode c10_findStates 156 = .ok (.iload_n 3, 1) := by decide +kernel
theorem d10_findStates_157 : decode c10_findStates 157 = .ok (.ifCond .eq 12, 3) := by decide +kernel
theorem d10_findStates_160 : decode c10_findStates 160 = .ok (.aload_n 0, 1) := by decide +kernel
theorem d10_findStates_161 : decode c10_findStates 161 = .ok (.getfield 48, 3) := by decide +kernel
theorem d10_findStates_164 : decode c10_findStates 164 = .ok (.iconst 2, 1) := by decide +kernel
theorem d10_findStates_165 : decode c10_findStates 165 = .ok (.iaload, 1) := by decide +kernel
theorem d10_findStates_166 : decode c10_findStates 166 = .ok (.goto 17, 3) := by decide +kernel
theorem d10_findStates_169 : decode c10_findStates 169 = .ok (.aload_n 0, 1) := by decide +kernel
theorem d10_findStates_170 : decode c10_findStates 170 = .ok (.getfield 48, 3) := by decide +kernel
theorem d10_findStates_173 : decode c10_findStates 173 = .ok (.iconst 2, 1) := by decide +kernel
theorem d10_findStates_174 : decode c10_findStates 174 = .ok (.iaload, 1) := by decide +kernel
theorem d10_findStates_175 : decode c10_findStates 175 = .ok (.iload 7, 2) := by decide +kernel
theorem d10_findStates_177 : decode c10_findStates 177 = .ok (.bipush 12, 2) := by decide +kernel
theorem d10_findStates_179 : decode c10_findStates 179 = .ok (.isub, 1) := by decide +kernel
theorem d10_findStates_180 : decode c10_findStates 180 = .ok (.invokestatic 152, 3) := by decide +kernel
theorem d10_findStates_183 : decode c10_findStates 183 = .ok (.istore 8, 2) := by decide +kernel
theorem d10_findStates_185 : decode c10_findStates 185 = .ok (.iload 8, 2) := by decide +kernel
theorem d10_findStates_187 : decode c10_findStates 187 = .ok (.iload_n 3, 1) := by decide +kernel
theorem d10_findStates_188 : decode c10_findStates 188 = .ok (.ifCond .eq 12, 3) := by decide +kernel
theorem d10_findStates_191 : decode c10_findStates 191 = .ok (.aload_n 0, 1) := by decide +kernel
theorem d10_findStates_192 : decode c10_findStates 192 = .ok (.getfield 51, 3) := by decide +kernel
theorem d10_findStates_195 : decode c10_findStates 195 = .ok (.iconst 2, 1) := by decide +kernel
theorem d10_findStates_196 : decode c10_findStates 196 = .ok (.iaload, 1) := by decide +kernel
theorem d10_findStates_197 : decode c10_findStates 197 = .ok (.goto 14, 3) := by decide +kernel
theorem d10_findStates_200 : decode c10_findStates 200 = .ok (.aload_n 0, 1) := by decide +kernel
theorem d10_findStates_201 : decode c10_findStates 201 = .ok (.getfield 51, 3) := by decide +kernel
theorem d10_findStates_204 : decode c10_findStates 204 = .ok (.iconst 2, 1) := by decide +kernel
theorem d10_findStates_205 : decode c10_findStates 205 = .ok (.iaload, 1) := by decide +kernel
theorem d10_findStates_206 : decode c10_findStates 206 = .ok (.iload 7, 2) := by decide +kernel
theorem d10_findStates_208 : decode c10_findStates 208 = .ok (.invokestatic 155, 3) := by decide +kernel
theorem d10_findStates_211 : decode c10_findStates 211 = .ok (.if_icmp .gt 177, 3) := by decide +kernel
theorem d10_findStates_214 : decode c10_findStates 214 = .ok (.aload_n 0, 1) := by decide +kernel
theorem d10_findStates_215 : decode c10_findStates 215 = .ok (.iload_n 1, 1) := by decide +kernel
theorem d10_findStates_216 : decode c10_findStates 216 = .ok (.iconst 1, 1) := by decide +kernel
theorem d10_findStates_217 : decode c10_findStates 217 = .ok (.iload 7, 2) := by decide +kernel
theorem d10_findStates_219 : decode c10_findStates 219 = .ok (.iload 5, 2) := by decide +kernel
theorem d10_findStates_221 : decode c10_findStates 221 = .ok (.invokevirtual 158, 3) := by decide +kernel
theorem d10_findStates_224 : decode c10_findStates 224 = .ok (.ifCond .eq 164, 3) := by decide +kernel
theorem d10_findStates_227 : decode c10_findStates 227 = .ok (.aload_n 0, 1) := by decide +kernel
theorem d10_findStates_228 : decode c10_findStates 228 = .ok (.getfield 93, 3) := by decide +kernel
theorem d10_findStates_231 : decode c10_findStates 231 = .ok (.iconst 2, 1) := by decide +kernel
theorem d10_findStates_232 : decode c10_findStates 232 = .ok (.iload 8, 2) := by decide +kernel
theorem d10_findStates_234 : decode c10_findStates 234 = .ok (.iastore, 1) := by decide +kernel
theorem d10_findStates_235 : decode c10_findStates 235 = .ok (.iload_n 3, 1) := by decide +kernel
theorem d10_findStates_236 : decode c10_findStates 236 = .ok (.ifCond .eq 12, 3) := by decide +kernel
theorem d10_findStates_239 : decode c10_findStates 239 = .ok (.aload_n 0, 1) := by decide +kernel
theorem d10_findStates_240 : decode c10_findStates 240 = .ok (.getfield 48, 3) := by decide +kernel
theorem d10_findStates_243 : decode c10_findStates 243 = .ok (.iconst 3, 1) := by decide +kernel
theorem d10_findStates_244 : decode c10_findStates 244 = .ok (.iaload, 1) := by decide +kernel
theorem d10_findStates_245 : decode c10_findStates 245 = .ok (.goto 17, 3) := by decide +kernel
theorem d10_findStates_248 : decode c10_findStates 248 = .ok (.aload_n 0, 1) := by decide +kernel
theorem d10_findStates_249 : decode c10_findStates 249 = .ok (.getfield 48, 3) := by decide +kernel
theorem d10_findStates_252 : decode c10_findStates 252 = .ok (.iconst 3, 1) := by decide +kernel
theorem d10_findStates_253 : decode c10_findStates 253 = .ok (.iaload, 1) := by decide +kernel
theorem d10_findStates_254 : decode c10_findStates 254 = .ok (.iload 8, 2) := by decide +kernel
theorem d10_findStates_256 : decode c10_findStates 256 = .ok (.bipush 19, 2) := by decide +kernel
theorem d10_findStates_258 : decode c10_findStates 258 = .ok (.isub, 1) := by decide +kernel
theorem d10_findStates_259 : decode c10_findStates 259 = .ok (.invokestatic 152, 3) := by decide +kernel
theorem d10_findStates_262 : decode c10_findStates 262 = .ok (.istore 9, 2) := by decide +kernel
theorem d10_findStates_264 : decode c10_findStates 264 = .ok (.iload 9, 2) := by decide +kernel
theorem d10_findStates_266 : decode c10_findStates 266 = .ok (.iload_n 3, 1) := by decide +kernel
theorem d10_findStates_267 : decode c10_findStates 267 = .ok (.ifCond .eq 12, 3) := by decide +kernel
theorem d10_findStates_270 : decode c10_findStates 270 = .ok (.aload_n 0, 1) := by decide +kernel
theorem d10_findStates_271 : decode c10_findStates 271 = .ok (.getfield 51, 3) := by decide +kernel
theorem d10_findStates_274 : decode c10_findStates 274 = .ok (.iconst 3, 1) := by decide +kernel
theorem d10_findStates_275 : decode c10_findStates 275 = .ok (.iaload, 1) := by decide +kernel
theorem d10_findStates_276 : decode c10_findStates 276 = .ok (.goto 14, 3) := by decide +kernel
theorem d10_findStates_279 : decode c10_findStates 279 = .ok (.aload_n 0, 1) := by decide +kernel
theorem d10_findStates_280 : decode c10_findStates 280 = .ok (.getfield 51, 3) := by decide +kernel
theorem d10_findStates_283 : decode c10_findStates 283 = .ok (.iconst 3, 1) := by decide +kernel
theorem d10_findStates_284 : decode c10_findStates 284 = .ok (.iaload, 1) := by decide +kernel
theorem d10_findStates_285 : decode c10_findStates 285 = .ok (.iload 8, 2) := by decide +kernel
theorem d10_findStates_287 : decode c10_findStates 287 = .ok (.invokestatic 155, 3) := by decide +kernel
theorem d10_findStates_290 : decode c10_findStates 290 = .ok (.if_icmp .gt 92, 3) := by decide +kernel
theorem d10_findStates_293 : decode c10_findStates 293 = .ok (.aload_n 0, 1) := by decide +kernel
theorem d10_findStates_294 : decode c10_findStates 294 = .ok (.iload_n 1, 1) := by decide +kernel
theorem d10_findStates_295 : decode c10_findStates 295 = .ok (.iconst 2, 1) := by decide +kernel
theorem d10_findStates_296 : decode c10_findStates 296 = .ok (.iload 8, 2) := by decide +kernel
theorem d10_findStates_298 : decode c10_findStates 298 = .ok (.iload 5, 2) := by decide +kernel
theorem d10_findStates_300 : decode c10_findStates 300 = .ok (.invokevirtual 158, 3) := by decide +kernel
theorem d10_findStates_303 : decode c10_findStates 303 = .ok (.ifCond .eq 79, 3) := by decide +kernel
theorem d10_findStates_306 : decode c10_findStates 306 = .ok (.aload_n 0, 1) := by decide +kernel
theorem d10_findStates_307 : decode c10_findStates 307 = .ok (.getfield 93, 3) := by decide +kernel
theorem d10_findStates_310 : decode c10_findStates 310 = .ok (.iconst 3, 1) := by decide +kernel
theorem d10_findStates_311 : decode c10_findStates 311 = .ok (.iload 9, 2) := by decide +kernel
theorem d10_findStates_313 : decode c10_findStates 313 = .ok (.iastore, 1) := by decide +kernel
theorem d10_findStates_314 : decode c10_findStates 314 = .ok (.aload_n 0, 1) := by decide +kernel
theorem d10_findStates_315 : decode c10_findStates 315 = .ok (.iload_n 1, 1) := by decide +kernel
theorem d10_findStates_316 : decode c10_findStates 316 = .ok (.iconst 3, 1) := by decide +kernel
theorem d10_findStates_317 : decode c10_findStates 317 = .ok (.iload 9, 2) := by decide +kernel
theorem d10_findStates_319 : decode c10_findStates 319 = .ok (.iload 5, 2) := by decide +kernel
theorem d10_findStates_321 : decode c10_findStates 321 = .ok (.invokevirtual 158, 3) := by decide +kernel
theorem d10_findStates_324 : decode c10_findStates 324 = .ok (.ifCond .eq 52, 3) := by decide +kernel
theorem d10_findStates_327 : decode c10_findStates 327 = .ok (.aload_n 0, 1) := by decide +kernel
theorem d10_findStates_328 : decode c10_findStates 328 = .ok (.iload_n 1, 1) := by decide +kernel
theorem d10_findStates_329 : decode c10_findStates 329 = .ok (.iload 5, 2) := by decide +kernel
theorem d10_findStates_331 : decode c10_findStates 331 = .ok (.invokevirtual 162, 3) := by decide +kernel
theorem d10_findStates_334 : decode c10_findStates 334 = .ok (.istore 10, 2) := by decide +kernel
theorem d10_findStates_336 : decode c10_findStates 336 = .ok (.aload_n 0, 1) := by decide +kernel
theorem d10_findStates_337 : decode c10_findStates 337 = .ok (.aload_n 0, 1) := by decide +kernel
theorem d10_findStates_338 : decode c10_findStates 338 = .ok (.getfield 149, 3) := by decide +kernel
theorem d10_findStates_341 : decode c10_findStates 341 = .ok (.iload 10, 2) := by decide +kernel
theorem d10_findStates_343 : decode c10_findStates 343 = .ok (.ior, 1) := by decide +kernel
theorem d10_findStates_344 : decode c10_findStates 344 = .ok (.putfield 149, 3) := by decide +kernel
theorem d10_findStates_347 : decode c10_findStates 347 = .ok (.iload 10, 2) := by decide +kernel
theorem d10_findStates_349 : decode c10_findStates 349 = .ok (.ifCond .ne 27, 3) := by decide +kernel
theorem d10_findStates_352 : decode c10_findStates 352 = .ok (.iload_n 2, 1) := by decide +kernel
theorem d10_findStates_353 : decode c10_findStates 353 = .ok (.ifCond .eq 20, 3) := by decide +kernel
theorem d10_findStates_356 : decode c10_findStates 356 = .ok (.iload 4, 2) := by decide +kernel
theorem d10_findStates_358 : decode c10_findStates 358 = .ok (.sipush 400, 3) := by decide +kernel
theorem d10_findStates_361 : decode c10_findStates 361 = .ok (.if_icmp .ge 12, 3) := by decide +kernel
theorem d10_findStates_364 : decode c10_findStates 364 = .ok (.aload_n 0, 1) := by decide +kernel
theorem d10_findStates_365 : decode c10_findStates 365 = .ok (.iload_n 1, 1) := by decide +kernel
theorem d10_findStates_366 : decode c10_findStates 366 = .ok (.iload 4, 2) := by decide +kernel
theorem d10_findStates_368 : decode c10_findStates 368 = .ok (.iload 5, 2) := by decide +kernel
theorem d10_findStates_370 : decode c10_findStates 370 = .ok (.invokevirtual 165, 3) := by decide +kernel
theorem d10_findStates_373 : decode c10_findStates 373 = .ok (.iinc 4 1, 3) := by decide +kernel
theorem d10_findStates_376 : decode c10_findStates 376 = .ok (.iinc 9 1, 3) := by decide +kernel
theorem d10_findStates_379 : decode c10_findStates 379 = .ok (.goto (-115), 3) := by decide +kernel
theorem d10_findStates_382 : decode c10_findStates 382 = .ok (.iinc 8 1, 3) := by decide +kernel
theorem d10_findStates_385 : decode c10_findStates 385 = .ok (.goto (-200), 3) := by decide +kernel
theorem d10_findStates_388 : decode c10_findStates 388 = .ok (.iinc 7 1, 3) := by decide +kernel
theorem d10_findStates_391 : decode c10_findStates 391 = .ok (.goto (-285), 3) := by decide +kernel
theorem d10_findStates_394 : decode c10_findStates 394 = .ok (.iinc 6 1, 3) := by decide +kernel
theorem d10_findStates_397 : decode c10_findStates 397 = .ok (.goto (-339), 3) := by decide +kernel
theorem d10_findStates_400 : decode c10_findStates 400 = .ok (.iinc 5 1, 3) := by decide +kernel
theorem d10_findStates_403 : decode c10_findStates 403 = .ok (.goto (-392), 3) := by decide +kernel
theorem d10_findStates_406 : decode c10_findStates 406 = .ok (.iload 4, 2) := by decide +kernel
theorem d10_findStates_408 : decode c10_findStates 408 = .ok (.ireturn, 1) := by decide +kernel
def t10_findStates (l : Launch) (Po : ri_O) : List ri_S := [i_con 1 0,
  i_is 2 4,
  i_al 3 0,
  i_con 4 0,
  i_put 5 10 32 ri_isI,
  i_con 6 0,
  i_is 7 5,
  i_il 8 5,
  i_con 9 13,
  i_icmp 10 213 (fun x y => y ≤ x),
  i_al 11 0,
  i_get 12 10 12,
  i_il 13 5,
  i_ald 14 1,
  i_if 15 211 (fun x => x = 0),
  i_al 16 0,
  i_get 17 10 9,
  i_il 18 1,
  i_ald 19 0,
  i_con 20 (-2),
  i_icmp 21 27 (fun x y => x = y),
  i_al 22 0,
  i_get 23 10 9,
  i_il 24 1,
  i_ald 25 0,
  i_il 26 5,
  i_icmp 27 211 (fun x y => ¬ x = y),
  i_al 28 0,
  i_get 29 10 14,
  i_con 30 0,
  i_ald 31 0,
  i_is 32 6,
  i_il 33 6,
  i_al 34 0,
  i_get 35 10 15,
  i_con 36 0,
  i_ald 37 0,
  i_icmp 38 211 (fun x y => y < x),
  i_al 39 0,
  i_get 40 10 31,
  i_con 41 0,
  i_il 42 6,
  i_ast 43 0 (fun x => x),
  i_il 44 3,
  i_if 45 50 (fun x => x = 0),
  i_al 46 0,
  i_get 47 10 14,
  i_con 48 1,
  i_ald 49 0,
  i_goto 58,
  i_al 51 0,
  i_get 52 10 14,
  i_con 53 1,
  i_ald 54 0,
  i_il 55 6,
  i_con 56 12,
  i_bin 57 (fun x y => x - y),
  i_call 58 2 (ri_Ev l y10_most w10_most r10_most 0 0) 0 0 0 0,
  i_is 59 7,
  i_il 60 7,
  i_il 61 3,
  i_if 62 67 (fun x => x = 0),
  i_al 63 0,
  i_get 64 10 15,
  i_con 65 1,
  i_ald 66 0,
  i_goto 73,
  i_al 68 0,
  i_get 69 10 15,
  i_con 70 1,
  i_ald 71 0,
  i_il 72 6,
  i_call 73 2 (ri_Ev l y10_lesser w10_lesser r10_lesser 0 0) 0 0 0 0,
  i_icmp 74 209 (fun x y => y < x),
  i_al 75 0,
  i_il 76 1,
  i_con 77 0,
  i_il 78 6,
  i_il 79 5,
  i_callV 80 5 10 (ri_Ev l y10_mayHave w10_mayHave r10_mayHave 0 0) 0 0 0 0,
  i_if 81 209 (fun x => x = 0),
  i_al 82 0,
  i_get 83 10 31,
  i_con 84 1,
  i_il 85 7,
  i_ast 86 0 (fun x => x),
  i_il 87 3,
  i_if 88 93 (fun x => x = 0),
  i_al 89 0,
  i_get 90 10 14,
  i_con 91 2,
  i_ald 92 0,
  i_goto 101,
  i_al 94 0,
  i_get 95 10 14,
  i_con 96 2,
  i_ald 97 0,
  i_il 98 7,
  i_con 99 12,
  i_bin 100 (fun x y => x - y),
  i_call 101 2 (ri_Ev l y10_most w10_most r10_most 0 0) 0 0 0 0,
  i_is 102 8,
  i_il 103 8,
  i_il 104 3,
  i_if 105 110 (fun x => x = 0),
  i_al 106 0,
  i_get 107 10 15,
  i_con 108 2,
  i_ald 109 0,
  i_goto 116,
  i_al 111 0,
  i_get 112 10 15,
  i_con 113 2,
  i_ald 114 0,
  i_il 115 7,
  i_call 116 2 (ri_Ev l y10_lesser w10_lesser r10_lesser 0 0) 0 0 0 0,
  i_icmp 117 207 (fun x y => y < x),
  i_al 118 0,
  i_il 119 1,
  i_con 120 1,
  i_il 121 7,
  i_il 122 5,
  i_callV 123 5 10 (ri_Ev l y10_mayHave w10_mayHave r10_mayHave 0 0) 0 0 0 0,
  i_if 124 207 (fun x => x = 0),
  i_al 125 0,
  i_get 126 10 31,
  i_con 127 2,
  i_il 128 8,
  i_ast 129 0 (fun x => x),
  i_il 130 3,
  i_if 131 136 (fun x => x = 0),
  i_al 132 0,
  i_get 133 10 14,
  i_con 134 3,
  i_ald 135 0,
  i_goto 144,
  i_al 137 0,
  i_get 138 10 14,
  i_con 139 3,
  i_ald 140 0,
  i_il 141 8,
  i_con 142 19,
  i_bin 143 (fun x y => x - y),
  i_call 144 2 (ri_Ev l y10_most w10_most r10_most 0 0) 0 0 0 0,
  i_is 145 9,
  i_il 146 9,
  i_il 147 3,
  i_if 148 153 (fun x => x = 0),
  i_al 149 0,
  i_get 150 10 15,
  i_con 151 3,
  i_ald 152 0,
  i_goto 159,
  i_al 154 0,
  i_get 155 10 15,
  i_con 156 3,
  i_ald 157 0,
  i_il 158 8,
  i_call 159 2 (ri_Ev l y10_lesser w10_lesser r10_lesser 0 0) 0 0 0 0,
  i_icmp 160 205 (fun x y => y < x),
  i_al 161 0,
  i_il 162 1,
  i_con 163 2,
  i_il 164 8,
  i_il 165 5,
  i_callV 166 5 10 (ri_Ev l y10_mayHave w10_mayHave r10_mayHave 0 0) 0 0 0 0,
  i_if 167 205 (fun x => x = 0),
  i_al 168 0,
  i_get 169 10 31,
  i_con 170 3,
  i_il 171 9,
  i_ast 172 0 (fun x => x),
  i_al 173 0,
  i_il 174 1,
  i_con 175 3,
  i_il 176 9,
  i_il 177 5,
  i_callV 178 5 10 (ri_Ev l y10_mayHave w10_mayHave r10_mayHave 0 0) 0 0 0 0,
  i_if 179 203 (fun x => x = 0),
  i_al 180 0,
  i_il 181 1,
  i_il 182 5,
  i_callV 183 3 10 (ri_Ev l y10_barsState w10_barsState r10_barsState 0 0) 0 0 0 0,
  i_is 184 10,
  i_al 185 0,
  i_al 186 0,
  i_get 187 10 32,
  i_il 188 10,
  i_bin 189 (fun x y => x ||| y),
  i_put 190 10 32 ri_isI,
  i_il 191 10,
  i_if 192 203 (fun x => ¬ x = 0),
  i_il 193 2,
  i_if 194 202 (fun x => x = 0),
  i_il 195 4,
  i_con 196 400,
  i_icmp 197 202 (fun x y => y ≤ x),
  i_al 198 0,
  i_il 199 1,
  i_il 200 4,
  i_il 201 5,
  i_callV 202 4 10 (ri_Ev l y10_putState w10_putState r10_putState 0 0) 0 0 0 0,
  i_inc 203 4 1,
  i_inc 204 9 1,
  i_goto 145,
  i_inc 206 8 1,
  i_goto 102,
  i_inc 208 7 1,
  i_goto 59,
  i_inc 210 6 1,
  i_goto 32,
  i_inc 212 5 1,
  i_goto 7,
  i_il 214 4,
  i_ret Po 0 0]
set_option maxRecDepth 20000 in
set_option maxHeartbeats 4000000 in
theorem z10_findStates (l : Launch) (Po : ri_O) (p : Program) (e : Env) (s : State) (m : MethodId) (args : Array Value) (below : List Frame) (meth : Method) (c : Code) (D : va_G) (ka : Nat → ClassId) (sa : Nat → Nat) (base : Nat) (X : ri_X p s m args c c10_findStates 11 w10_findStates "ChoraleSearchModel" D ka sa base) (hret : meth.sig.returnType = (some .int)) (hlocks : meth.locks = false) (hname : meth.name = "findStates") : ri_clo (ri_W p l e r10_findStates s m args below meth c D ka sa base 11 (MQ below (ri_Qc D ka sa base Po) args s 0 0 (fun q => base ≤ q)) p10_findStates) (t10_findStates l Po) := by
  refine ri_clo_of ?_
  unfold t10_findStates
  exact ⟨s_iconst X d10_findStates_0 rfl rfl,
    s_istore X d10_findStates_1 (by decide) rfl,
    s_aload_n X d10_findStates_3 rfl rfl,
    s_iconst X d10_findStates_4 rfl rfl,
    s_put X (ci := 10) (f := 32) rfl (fun w h => List.mem_cons_of_mem _ (uC_10 w h)) (by decide) tC_10 oC_10 nC_10 rfl ri_ok_int (List.mem_cons_of_mem _ mgw_846) d10_findStates_5 rfl,
    s_iconst X d10_findStates_8 rfl rfl,
    s_istore X d10_findStates_9 (by decide) rfl,
    s_iload X d10_findStates_11 rfl,
    s_bipush X d10_findStates_13 rfl rfl,
    s_icmp_ge X d10_findStates_15 rfl rfl,
    s_aload_n X d10_findStates_18 rfl rfl,
    s_get X (ci := 10) (f := 12) rfl (fun w h => List.mem_cons_of_mem _ (uC_10 w h)) (by decide) (List.mem_cons_of_mem _ mgw_826) d10_findStates_19 rfl,
    s_iload X d10_findStates_22 rfl,
    s_zald X rfl d10_findStates_24 rfl,
    s_if_eq X d10_findStates_25 rfl rfl,
    s_aload_n X d10_findStates_28 rfl rfl,
    s_get X (ci := 10) (f := 9) rfl (fun w h => List.mem_cons_of_mem _ (uC_10 w h)) (by decide) (List.mem_cons_of_mem _ mgw_823) d10_findStates_29 rfl,
    s_iload_n X d10_findStates_32 rfl rfl,
    s_iald X rfl d10_findStates_33 rfl,
    s_bipush X d10_findStates_34 rfl rfl,
    s_icmp_eq X d10_findStates_36 rfl rfl,
    s_aload_n X d10_findStates_39 rfl rfl,
    s_get X (ci := 10) (f := 9) rfl (fun w h => List.mem_cons_of_mem _ (uC_10 w h)) (by decide) (List.mem_cons_of_mem _ mgw_823) d10_findStates_40 rfl,
    s_iload_n X d10_findStates_43 rfl rfl,
    s_iald X rfl d10_findStates_44 rfl,
    s_iload X d10_findStates_45 rfl,
    s_icmp_ne X d10_findStates_47 rfl rfl,
    s_aload_n X d10_findStates_50 rfl rfl,
    s_get X (ci := 10) (f := 14) rfl (fun w h => List.mem_cons_of_mem _ (uC_10 w h)) (by decide) (List.mem_cons_of_mem _ mgw_828) d10_findStates_51 rfl,
    s_iconst X d10_findStates_54 rfl rfl,
    s_iald X rfl d10_findStates_55 rfl,
    s_istore X d10_findStates_56 (by decide) rfl,
    s_iload X d10_findStates_58 rfl,
    s_aload_n X d10_findStates_60 rfl rfl,
    s_get X (ci := 10) (f := 15) rfl (fun w h => List.mem_cons_of_mem _ (uC_10 w h)) (by decide) (List.mem_cons_of_mem _ mgw_829) d10_findStates_61 rfl,
    s_iconst X d10_findStates_64 rfl rfl,
    s_iald X rfl d10_findStates_65 rfl,
    s_icmp_gt X d10_findStates_66 rfl rfl,
    s_aload_n X d10_findStates_69 rfl rfl,
    s_get X (ci := 10) (f := 31) rfl (fun w h => List.mem_cons_of_mem _ (uC_10 w h)) (by decide) (List.mem_cons_of_mem _ mgw_845) d10_findStates_70 rfl,
    s_iconst X d10_findStates_73 rfl rfl,
    s_iload X d10_findStates_74 rfl,
    s_iast X rfl d10_findStates_76 rfl,
    s_iload_n X d10_findStates_77 rfl rfl,
    s_if_eq X d10_findStates_78 rfl rfl,
    s_aload_n X d10_findStates_81 rfl rfl,
    s_get X (ci := 10) (f := 14) rfl (fun w h => List.mem_cons_of_mem _ (uC_10 w h)) (by decide) (List.mem_cons_of_mem _ mgw_828) d10_findStates_82 rfl,
    s_iconst X d10_findStates_85 rfl rfl,
    s_iald X rfl d10_findStates_86 rfl,
    s_goto X d10_findStates_87 rfl,
    s_aload_n X d10_findStates_90 rfl rfl,
    s_get X (ci := 10) (f := 14) rfl (fun w h => List.mem_cons_of_mem _ (uC_10 w h)) (by decide) (List.mem_cons_of_mem _ mgw_828) d10_findStates_91 rfl,
    s_iconst X d10_findStates_94 rfl rfl,
    s_iald X rfl d10_findStates_95 rfl,
    s_iload X d10_findStates_96 rfl,
    s_bipush X d10_findStates_98 rfl rfl,
    s_isub X d10_findStates_100 rfl,
    s_callS ri_NW_ok X ⟨ri_cB X 2 mgw_989 (List.mem_cons_of_mem _ mgw_12) (List.mem_cons_of_mem _ mgw_987) (by decide +kernel) rfl rfl ⟨by decide, by decide⟩, X.2.2.2.2.1 _ (List.mem_cons_of_mem _ mgw_988)⟩ d10_findStates_101 rfl,
    s_istore X d10_findStates_104 (by decide) rfl,
    s_iload X d10_findStates_106 rfl,
    s_iload_n X d10_findStates_108 rfl rfl,
    s_if_eq X d10_findStates_109 rfl rfl,
    s_aload_n X d10_findStates_112 rfl rfl,
    s_get X (ci := 10) (f := 15) rfl (fun w h => List.mem_cons_of_mem _ (uC_10 w h)) (by decide) (List.mem_cons_of_mem _ mgw_829) d10_findStates_113 rfl,
    s_iconst X d10_findStates_116 rfl rfl,
    s_iald X rfl d10_findStates_117 rfl,
    s_goto X d10_findStates_118 rfl,
    s_aload_n X d10_findStates_121 rfl rfl,
    s_get X (ci := 10) (f := 15) rfl (fun w h => List.mem_cons_of_mem _ (uC_10 w h)) (by decide) (List.mem_cons_of_mem _ mgw_829) d10_findStates_122 rfl,
    s_iconst X d10_findStates_125 rfl rfl,
    s_iald X rfl d10_findStates_126 rfl,
    s_iload X d10_findStates_127 rfl,
    s_callS ri_NW_ok X ⟨ri_cB X 2 mgw_992 (List.mem_cons_of_mem _ mgw_12) (List.mem_cons_of_mem _ mgw_990) (by decide +kernel) rfl rfl ⟨by decide, by decide⟩, X.2.2.2.2.1 _ (List.mem_cons_of_mem _ mgw_991)⟩ d10_findStates_129 rfl,
    s_icmp_gt X d10_findStates_132 rfl rfl,
    s_aload_n X d10_findStates_135 rfl rfl,
    s_iload_n X d10_findStates_136 rfl rfl,
    s_iconst X d10_findStates_137 rfl rfl,
    s_iload X d10_findStates_138 rfl,
    s_iload X d10_findStates_140 rfl,
    s_callV ri_NW_ok X (na := 4) (ci := 10) rfl ⟨ri_cB X 4 mgw_996 (List.mem_cons_of_mem _ mgw_12) (List.mem_cons_of_mem _ mgw_993) (by decide +kernel) rfl rfl ⟨by decide, by decide⟩, X.2.2.2.2.1 _ (List.mem_cons_of_mem _ mgw_995), X.2.2.2.2.1 _ (List.mem_cons_of_mem _ mgp_79)⟩ d10_findStates_142 rfl,
    s_if_eq X d10_findStates_145 rfl rfl,
    s_aload_n X d10_findStates_148 rfl rfl,
    s_get X (ci := 10) (f := 31) rfl (fun w h => List.mem_cons_of_mem _ (uC_10 w h)) (by decide) (List.mem_cons_of_mem _ mgw_845) d10_findStates_149 rfl,
    s_iconst X d10_findStates_152 rfl rfl,
    s_iload X d10_findStates_153 rfl,
    s_iast X rfl d10_findStates_155 rfl,
    s_iload_n X d10_findStates_156 rfl rfl,
    s_if_eq X d10_findStates_157 rfl rfl,
    s_aload_n X d10_findStates_160 rfl rfl,
    s_get X (ci := 10) (f := 14) rfl (fun w h => List.mem_cons_of_mem _ (uC_10 w h)) (by decide) (List.mem_cons_of_mem _ mgw_828) d10_findStates_161 rfl,
    s_iconst X d10_findStates_164 rfl rfl,
    s_iald X rfl d10_findStates_165 rfl,
    s_goto X d10_findStates_166 rfl,
    s_aload_n X d10_findStates_169 rfl rfl,
    s_get X (ci := 10) (f := 14) rfl (fun w h => List.mem_cons_of_mem _ (uC_10 w h)) (by decide) (List.mem_cons_of_mem _ mgw_828) d10_findStates_170 rfl,
    s_iconst X d10_findStates_173 rfl rfl,
    s_iald X rfl d10_findStates_174 rfl,
    s_iload X d10_findStates_175 rfl,
    s_bipush X d10_findStates_177 rfl rfl,
    s_isub X d10_findStates_179 rfl,
    s_callS ri_NW_ok X ⟨ri_cB X 2 mgw_989 (List.mem_cons_of_mem _ mgw_12) (List.mem_cons_of_mem _ mgw_987) (by decide +kernel) rfl rfl ⟨by decide, by decide⟩, X.2.2.2.2.1 _ (List.mem_cons_of_mem _ mgw_988)⟩ d10_findStates_180 rfl,
    s_istore X d10_findStates_183 (by decide) rfl,
    s_iload X d10_findStates_185 rfl,
    s_iload_n X d10_findStates_187 rfl rfl,
    s_if_eq X d10_findStates_188 rfl rfl,
    s_aload_n X d10_findStates_191 rfl rfl,
    s_get X (ci := 10) (f := 15) rfl (fun w h => List.mem_cons_of_mem _ (uC_10 w h)) (by decide) (List.mem_cons_of_mem _ mgw_829) d10_findStates_192 rfl,
    s_iconst X d10_findStates_195 rfl rfl,
    s_iald X rfl d10_findStates_196 rfl,
    s_goto X d10_findStates_197 rfl,
    s_aload_n X d10_findStates_200 rfl rfl,
    s_get X (ci := 10) (f := 15) rfl (fun w h => List.mem_cons_of_mem _ (uC_10 w h)) (by decide) (List.mem_cons_of_mem _ mgw_829) d10_findStates_201 rfl,
    s_iconst X d10_findStates_204 rfl rfl,
    s_iald X rfl d10_findStates_205 rfl,
    s_iload X d10_findStates_206 rfl,
    s_callS ri_NW_ok X ⟨ri_cB X 2 mgw_992 (List.mem_cons_of_mem _ mgw_12) (List.mem_cons_of_mem _ mgw_990) (by decide +kernel) rfl rfl ⟨by decide, by decide⟩, X.2.2.2.2.1 _ (List.mem_cons_of_mem _ mgw_991)⟩ d10_findStates_208 rfl,
    s_icmp_gt X d10_findStates_211 rfl rfl,
    s_aload_n X d10_findStates_214 rfl rfl,
    s_iload_n X d10_findStates_215 rfl rfl,
    s_iconst X d10_findStates_216 rfl rfl,
    s_iload X d10_findStates_217 rfl,
    s_iload X d10_findStates_219 rfl,
    s_callV ri_NW_ok X (na := 4) (ci := 10) rfl ⟨ri_cB X 4 mgw_996 (List.mem_cons_of_mem _ mgw_12) (List.mem_cons_of_mem _ mgw_993) (by decide +kernel) rfl rfl ⟨by decide, by decide⟩, X.2.2.2.2.1 _ (List.mem_cons_of_mem _ mgw_995), X.2.2.2.2.1 _ (List.mem_cons_of_mem _ mgp_79)⟩ d10_findStates_221 rfl,
    s_if_eq X d10_findStates_224 rfl rfl,
    s_aload_n X d10_findStates_227 rfl rfl,
    s_get X (ci := 10) (f := 31) rfl (fun w h => List.mem_cons_of_mem _ (uC_10 w h)) (by decide) (List.mem_cons_of_mem _ mgw_845) d10_findStates_228 rfl,
    s_iconst X d10_findStates_231 rfl rfl,
    s_iload X d10_findStates_232 rfl,
    s_iast X rfl d10_findStates_234 rfl,
    s_iload_n X d10_findStates_235 rfl rfl,
    s_if_eq X d10_findStates_236 rfl rfl,
    s_aload_n X d10_findStates_239 rfl rfl,
    s_get X (ci := 10) (f := 14) rfl (fun w h => List.mem_cons_of_mem _ (uC_10 w h)) (by decide) (List.mem_cons_of_mem _ mgw_828) d10_findStates_240 rfl,
    s_iconst X d10_findStates_243 rfl rfl,
    s_iald X rfl d10_findStates_244 rfl,
    s_goto X d10_findStates_245 rfl,
    s_aload_n X d10_findStates_248 rfl rfl,
    s_get X (ci := 10) (f := 14) rfl (fun w h => List.mem_cons_of_mem _ (uC_10 w h)) (by decide) (List.mem_cons_of_mem _ mgw_828) d10_findStates_249 rfl,
    s_iconst X d10_findStates_252 rfl rfl,
    s_iald X rfl d10_findStates_253 rfl,
    s_iload X d10_findStates_254 rfl,
    s_bipush X d10_findStates_256 rfl rfl,
    s_isub X d10_findStates_258 rfl,
    s_callS ri_NW_ok X ⟨ri_cB X 2 mgw_989 (List.mem_cons_of_mem _ mgw_12) (List.mem_cons_of_mem _ mgw_987) (by decide +kernel) rfl rfl ⟨by decide, by decide⟩, X.2.2.2.2.1 _ (List.mem_cons_of_mem _ mgw_988)⟩ d10_findStates_259 rfl,
    s_istore X d10_findStates_262 (by decide) rfl,
    s_iload X d10_findStates_264 rfl,
    s_iload_n X d10_findStates_266 rfl rfl,
    s_if_eq X d10_findStates_267 rfl rfl,
    s_aload_n X d10_findStates_270 rfl rfl,
    s_get X (ci := 10) (f := 15) rfl (fun w h => List.mem_cons_of_mem _ (uC_10 w h)) (by decide) (List.mem_cons_of_mem _ mgw_829) d10_findStates_271 rfl,
    s_iconst X d10_findStates_274 rfl rfl,
    s_iald X rfl d10_findStates_275 rfl,
    s_goto X d10_findStates_276 rfl,
    s_aload_n X d10_findStates_279 rfl rfl,
    s_get X (ci := 10) (f := 15) rfl (fun w h => List.mem_cons_of_mem _ (uC_10 w h)) (by decide) (List.mem_cons_of_mem _ mgw_829) d10_findStates_280 rfl,
    s_iconst X d10_findStates_283 rfl rfl,
    s_iald X rfl d10_findStates_284 rfl,
    s_iload X d10_findStates_285 rfl,
    s_callS ri_NW_ok X ⟨ri_cB X 2 mgw_992 (List.mem_cons_of_mem _ mgw_12) (List.mem_cons_of_mem _ mgw_990) (by decide +kernel) rfl rfl ⟨by decide, by decide⟩, X.2.2.2.2.1 _ (List.mem_cons_of_mem _ mgw_991)⟩ d10_findStates_287 rfl,
    s_icmp_gt X d10_findStates_290 rfl rfl,
    s_aload_n X d10_findStates_293 rfl rfl,
    s_iload_n X d10_findStates_294 rfl rfl,
    s_iconst X d10_findStates_295 rfl rfl,
    s_iload X d10_findStates_296 rfl,
    s_iload X d10_findStates_298 rfl,
    s_callV ri_NW_ok X (na := 4) (ci := 10) rfl ⟨ri_cB X 4 mgw_996 (List.mem_cons_of_mem _ mgw_12) (List.mem_cons_of_mem _ mgw_993) (by decide +kernel) rfl rfl ⟨by decide, by decide⟩, X.2.2.2.2.1 _ (List.mem_cons_of_mem _ mgw_995), X.2.2.2.2.1 _ (List.mem_cons_of_mem _ mgp_79)⟩ d10_findStates_300 rfl,
    s_if_eq X d10_findStates_303 rfl rfl,
    s_aload_n X d10_findStates_306 rfl rfl,
    s_get X (ci := 10) (f := 31) rfl (fun w h => List.mem_cons_of_mem _ (uC_10 w h)) (by decide) (List.mem_cons_of_mem _ mgw_845) d10_findStates_307 rfl,
    s_iconst X d10_findStates_310 rfl rfl,
    s_iload X d10_findStates_311 rfl,
    s_iast X rfl d10_findStates_313 rfl,
    s_aload_n X d10_findStates_314 rfl rfl,
    s_iload_n X d10_findStates_315 rfl rfl,
    s_iconst X d10_findStates_316 rfl rfl,
    s_iload X d10_findStates_317 rfl,
    s_iload X d10_findStates_319 rfl,
    s_callV ri_NW_ok X (na := 4) (ci := 10) rfl ⟨ri_cB X 4 mgw_996 (List.mem_cons_of_mem _ mgw_12) (List.mem_cons_of_mem _ mgw_993) (by decide +kernel) rfl rfl ⟨by decide, by decide⟩, X.2.2.2.2.1 _ (List.mem_cons_of_mem _ mgw_995), X.2.2.2.2.1 _ (List.mem_cons_of_mem _ mgp_79)⟩ d10_findStates_321 rfl,
    s_if_eq X d10_findStates_324 rfl rfl,
    s_aload_n X d10_findStates_327 rfl rfl,
    s_iload_n X d10_findStates_328 rfl rfl,
    s_iload X d10_findStates_329 rfl,
    s_callV ri_NW_ok X (na := 2) (ci := 10) rfl ⟨ri_cB X 2 mgw_1012 (List.mem_cons_of_mem _ mgw_12) (List.mem_cons_of_mem _ mgw_1009) (by decide +kernel) rfl rfl ⟨by decide, by decide⟩, X.2.2.2.2.1 _ (List.mem_cons_of_mem _ mgw_1011), X.2.2.2.2.1 _ (List.mem_cons_of_mem _ mgp_83)⟩ d10_findStates_331 rfl,
    s_istore X d10_findStates_334 (by decide) rfl,
    s_aload_n X d10_findStates_336 rfl rfl,
    s_aload_n X d10_findStates_337 rfl rfl,
    s_get X (ci := 10) (f := 32) rfl (fun w h => List.mem_cons_of_mem _ (uC_10 w h)) (by decide) (List.mem_cons_of_mem _ mgw_846) d10_findStates_338 rfl,
    s_iload X d10_findStates_341 rfl,
    s_ior X d10_findStates_343 rfl,
    s_put X (ci := 10) (f := 32) rfl (fun w h => List.mem_cons_of_mem _ (uC_10 w h)) (by decide) tC_10 oC_10 nC_10 rfl ri_ok_int (List.mem_cons_of_mem _ mgw_846) d10_findStates_344 rfl,
    s_iload X d10_findStates_347 rfl,
    s_if_ne X d10_findStates_349 rfl rfl,
    s_iload_n X d10_findStates_352 rfl rfl,
    s_if_eq X d10_findStates_353 rfl rfl,
    s_iload X d10_findStates_356 rfl,
    s_sipush X d10_findStates_358 rfl rfl,
    s_icmp_ge X d10_findStates_361 rfl rfl,
    s_aload_n X d10_findStates_364 rfl rfl,
    s_iload_n X d10_findStates_365 rfl rfl,
    s_iload X d10_findStates_366 rfl,
    s_iload X d10_findStates_368 rfl,
    s_callV ri_NW_ok X (na := 3) (ci := 10) rfl ⟨ri_cB X 3 mgw_1016 (List.mem_cons_of_mem _ mgw_12) (List.mem_cons_of_mem _ mgw_1013) (by decide +kernel) rfl rfl ⟨by decide, by decide⟩, X.2.2.2.2.1 _ (List.mem_cons_of_mem _ mgw_1015), X.2.2.2.2.1 _ (List.mem_cons_of_mem _ mgp_84)⟩ d10_findStates_370 rfl,
    s_iinc X d10_findStates_373 rfl (by decide) rfl,
    s_iinc X d10_findStates_376 rfl (by decide) rfl,
    s_goto X d10_findStates_379 rfl,
    s_iinc X d10_findStates_382 rfl (by decide) rfl,
    s_goto X d10_findStates_385 rfl,
    s_iinc X d10_findStates_388 rfl (by decide) rfl,
    s_goto X d10_findStates_391 rfl,
    s_iinc X d10_findStates_394 rfl (by decide) rfl,
    s_goto X d10_findStates_397 rfl,
    s_iinc X d10_findStates_400 rfl (by decide) rfl,
    s_goto X d10_findStates_403 rfl,
    s_iload X d10_findStates_406 rfl,
    s_iret X hret hlocks d10_findStates_408, trivial⟩
theorem d10_most_0 : decode c10_most 0 = .ok (.iload_n 0, 1) := by decide +kernel
theorem d10_most_1 : decode c10_most 1 = .ok (.iload_n 1, 1) := by decide +kernel
theorem d10_most_2 : decode c10_most 2 = .ok (.if_icmp .le 7, 3) := by decide +kernel
theorem d10_most_5 : decode c10_most 5 = .ok (.iload_n 0, 1) := by decide +kernel
theorem d10_most_6 : decode c10_most 6 = .ok (.goto 4, 3) := by decide +kernel
theorem d10_most_9 : decode c10_most 9 = .ok (.iload_n 1, 1) := by decide +kernel
theorem d10_most_10 : decode c10_most 10 = .ok (.ireturn, 1) := by decide +kernel
def t10_most (l : Launch) (Po : ri_O) : List ri_S := [i_il 1 0,
  i_il 2 1,
  i_icmp 3 5 (fun x y => x ≤ y),
  i_il 4 0,
  i_goto 6,
  i_il 6 1,
  i_ret Po 0 0]
set_option maxRecDepth 20000 in
set_option maxHeartbeats 4000000 in
theorem z10_most (l : Launch) (Po : ri_O) (p : Program) (e : Env) (s : State) (m : MethodId) (args : Array Value) (below : List Frame) (meth : Method) (c : Code) (D : va_G) (ka : Nat → ClassId) (sa : Nat → Nat) (base : Nat) (X : ri_X p s m args c c10_most 2 w10_most "ChoraleSearchModel" D ka sa base) (hret : meth.sig.returnType = (some .int)) (hlocks : meth.locks = false) (hname : meth.name = "most") : ri_clo (ri_W p l e r10_most s m args below meth c D ka sa base 2 (MQ below (ri_Qc D ka sa base Po) args s 0 0 (fun q => base ≤ q)) p10_most) (t10_most l Po) := by
  refine ri_clo_of ?_
  unfold t10_most
  exact ⟨s_iload_n X d10_most_0 rfl rfl,
    s_iload_n X d10_most_1 rfl rfl,
    s_icmp_le X d10_most_2 rfl rfl,
    s_iload_n X d10_most_5 rfl rfl,
    s_goto X d10_most_6 rfl,
    s_iload_n X d10_most_9 rfl rfl,
    s_iret X hret hlocks d10_most_10, trivial⟩
theorem d10_lesser_0 : decode c10_lesser 0 = .ok (.iload_n 0, 1) := by decide +kernel
theorem d10_lesser_1 : decode c10_lesser 1 = .ok (.iload_n 1, 1) := by decide +kernel
theorem d10_lesser_2 : decode c10_lesser 2 = .ok (.if_icmp .ge 7, 3) := by decide +kernel
theorem d10_lesser_5 : decode c10_lesser 5 = .ok (.iload_n 0, 1) := by decide +kernel
theorem d10_lesser_6 : decode c10_lesser 6 = .ok (.goto 4, 3) := by decide +kernel
theorem d10_lesser_9 : decode c10_lesser 9 = .ok (.iload_n 1, 1) := by decide +kernel
theorem d10_lesser_10 : decode c10_lesser 10 = .ok (.ireturn, 1) := by decide +kernel
def t10_lesser (l : Launch) (Po : ri_O) : List ri_S := [i_il 1 0,
  i_il 2 1,
  i_icmp 3 5 (fun x y => y ≤ x),
  i_il 4 0,
  i_goto 6,
  i_il 6 1,
  i_ret Po 0 0]
set_option maxRecDepth 20000 in
set_option maxHeartbeats 4000000 in
theorem z10_lesser (l : Launch) (Po : ri_O) (p : Program) (e : Env) (s : State) (m : MethodId) (args : Array Value) (below : List Frame) (meth : Method) (c : Code) (D : va_G) (ka : Nat → ClassId) (sa : Nat → Nat) (base : Nat) (X : ri_X p s m args c c10_lesser 2 w10_lesser "ChoraleSearchModel" D ka sa base) (hret : meth.sig.returnType = (some .int)) (hlocks : meth.locks = false) (hname : meth.name = "lesser") : ri_clo (ri_W p l e r10_lesser s m args below meth c D ka sa base 2 (MQ below (ri_Qc D ka sa base Po) args s 0 0 (fun q => base ≤ q)) p10_lesser) (t10_lesser l Po) := by
  refine ri_clo_of ?_
  unfold t10_lesser
  exact ⟨s_iload_n X d10_lesser_0 rfl rfl,
    s_iload_n X d10_lesser_1 rfl rfl,
    s_icmp_ge X d10_lesser_2 rfl rfl,
    s_iload_n X d10_lesser_5 rfl rfl,
    s_goto X d10_lesser_6 rfl,
    s_iload_n X d10_lesser_9 rfl rfl,
    s_iret X hret hlocks d10_lesser_10, trivial⟩
theorem d10_mayHave_0 : decode c10_mayHave 0 = .ok (.aload_n 0, 1) := by decide +kernel
theorem d10_mayHave_1 : decode c10_mayHave 1 = .ok (.getfield 29, 3) := by decide +kernel
theorem d10_mayHave_4 : decode c10_mayHave 4 = .ok (.iconst 4, 1) := by decide +kernel
theorem d10_mayHave_5 : decode c10_mayHave 5 = .ok (.iload_n 1, 1) := by decide +kernel
theorem d10_mayHave_6 : decode c10_mayHave 6 = .ok (.imul, 1) := by decide +kernel
theorem d10_mayHave_7 : decode c10_mayHave 7 = .ok (.iload_n 2, 1) := by decide +kernel
theorem d10_mayHave_8 : decode c10_mayHave 8 = .ok (.iadd, 1) := by decide +kernel
theorem d10_mayHave_9 : decode c10_mayHave 9 = .ok (.iaload, 1) := by decide +kernel
theorem d10_mayHave_10 : decode c10_mayHave 10 = .ok (.istore 5, 2) := by decide +kernel
theorem d10_mayHave_12 : decode c10_mayHave 12 = .ok (.aload_n 0, 1) := by decide +kernel
theorem d10_mayHave_13 : decode c10_mayHave 13 = .ok (.iload 4, 2) := by decide +kernel
theorem d10_mayHave_15 : decode c10_mayHave 15 = .ok (.iload_n 3, 1) := by decide +kernel
theorem d10_mayHave_16 : decode c10_mayHave 16 = .ok (.invokevirtual 146, 3) := by decide +kernel
theorem d10_mayHave_19 : decode c10_mayHave 19 = .ok (.istore 6, 2) := by decide +kernel
theorem d10_mayHave_21 : decode c10_mayHave 21 = .ok (.iload 5, 2) := by decide +kernel
theorem d10_mayHave_23 : decode c10_mayHave 23 = .ok (.bipush (-2), 2) := by decide +kernel
theorem d10_mayHave_25 : decode c10_mayHave 25 = .ok (.if_icmp .eq 9, 3) := by decide +kernel
theorem d10_mayHave_28 : decode c10_mayHave 28 = .ok (.iload 5, 2) := by decide +kernel
theorem d10_mayHave_30 : decode c10_mayHave 30 = .ok (.iload_n 3, 1) := by decide +kernel
theorem d10_mayHave_31 : decode c10_mayHave 31 = .ok (.if_icmp .ne 39, 3) := by decide +kernel
theorem d10_mayHave_34 : decode c10_mayHave 34 = .ok (.iload 6, 2) := by decide +kernel
theorem d10_mayHave_36 : decode c10_mayHave 36 = .ok (.ifCond .lt 34, 3) := by decide +kernel
theorem d10_mayHave_39 : decode c10_mayHave 39 = .ok (.iload_n 2, 1) := by decide +kernel
theorem d10_mayHave_40 : decode c10_mayHave 40 = .ok (.iconst 3, 1) := by decide +kernel
theorem d10_mayHave_41 : decode c10_mayHave 41 = .ok (.if_icmp .lt 25, 3) := by decide +kernel
theorem d10_mayHave_44 : decode c10_mayHave 44 = .ok (.aload_n 0, 1) := by decide +kernel
theorem d10_mayHave_45 : decode c10_mayHave 45 = .ok (.getfield 35, 3) := by decide +kernel
theorem d10_mayHave_48 : decode c10_mayHave 48 = .ok (.iload_n 1, 1) := by decide +kernel
theorem d10_mayHave_49 : decode c10_mayHave 49 = .ok (.iaload, 1) := by decide +kernel
theorem d10_mayHave_50 : decode c10_mayHave 50 = .ok (.bipush (-2), 2) := by decide +kernel
theorem d10_mayHave_52 : decode c10_mayHave 52 = .ok (.if_icmp .eq 14, 3) := by decide +kernel
theorem d10_mayHave_55 : decode c10_mayHave 55 = .ok (.aload_n 0, 1) := by decide +kernel
theorem d10_mayHave_56 : decode c10_mayHave 56 = .ok (.getfield 35, 3) := by decide +kernel
theorem d10_mayHave_59 : decode c10_mayHave 59 = .ok (.iload_n 1, 1) := by decide +kernel
theorem d10_mayHave_60 : decode c10_mayHave 60 = .ok (.iaload, 1) := by decide +kernel
theorem d10_mayHave_61 : decode c10_mayHave 61 = .ok (.iload 6, 2) := by decide +kernel
theorem d10_mayHave_63 : decode c10_mayHave 63 = .ok (.if_icmp .ne 7, 3) := by decide +kernel
theorem d10_mayHave_66 : decode c10_mayHave 66 = .ok (.iconst 1, 1) := by decide +kernel
theorem d10_mayHave_67 : decode c10_mayHave 67 = .ok (.goto 4, 3) := by decide +kernel
theorem d10_mayHave_70 : decode c10_mayHave 70 = .ok (.iconst 0, 1) := by decide +kernel
theorem d10_mayHave_71 : decode c10_mayHave 71 = .ok (.ireturn, 1) := by decide +kernel
def t10_mayHave (l : Launch) (Po : ri_O) : List ri_S := [i_al 1 0,
  i_get 2 10 8,
  i_con 3 4,
  i_il 4 1,
  i_bin 5 (fun x y => x * y),
  i_il 6 2,
  i_bin 7 (fun x y => x + y),
  i_ald 8 0,
  i_is 9 5,
  i_al 10 0,
  i_il 11 4,
  i_il 12 3,
  i_callV 13 3 10 (ri_Ev l y10_memberOf w10_memberOf r10_memberOf 0 0) 0 0 0 0,
  i_is 14 6,
  i_il 15 5,
  i_con 16 (-2),
  i_icmp 17 20 (fun x y => x = y),
  i_il 18 5,
  i_il 19 3,
  i_icmp 20 39 (fun x y => ¬ x = y),
  i_il 21 6,
  i_if 22 39 (fun x => x < 0),
  i_il 23 2,
  i_con 24 3,
  i_icmp 25 37 (fun x y => x < y),
  i_al 26 0,
  i_get 27 10 10,
  i_il 28 1,
  i_ald 29 0,
  i_con 30 (-2),
  i_icmp 31 37 (fun x y => x = y),
  i_al 32 0,
  i_get 33 10 10,
  i_il 34 1,
  i_ald 35 0,
  i_il 36 6,
  i_icmp 37 39 (fun x y => ¬ x = y),
  i_con 38 1,
  i_goto 40,
  i_con 40 0,
  i_zret Po 0 0]
set_option maxRecDepth 20000 in
set_option maxHeartbeats 4000000 in
theorem z10_mayHave (l : Launch) (Po : ri_O) (p : Program) (e : Env) (s : State) (m : MethodId) (args : Array Value) (below : List Frame) (meth : Method) (c : Code) (D : va_G) (ka : Nat → ClassId) (sa : Nat → Nat) (base : Nat) (X : ri_X p s m args c c10_mayHave 7 w10_mayHave "ChoraleSearchModel" D ka sa base) (hret : meth.sig.returnType = (some .boolean)) (hlocks : meth.locks = false) (hname : meth.name = "mayHave") : ri_clo (ri_W p l e r10_mayHave s m args below meth c D ka sa base 7 (MQ below (ri_Qc D ka sa base Po) args s 0 0 (fun q => base ≤ q)) p10_mayHave) (t10_mayHave l Po) := by
  refine ri_clo_of ?_
  unfold t10_mayHave
  exact ⟨s_aload_n X d10_mayHave_0 rfl rfl,
    s_get X (ci := 10) (f := 8) rfl (fun w h => List.mem_cons_of_mem _ (uC_10 w h)) (by decide) (List.mem_cons_of_mem _ mgw_822) d10_mayHave_1 rfl,
    s_iconst X d10_mayHave_4 rfl rfl,
    s_iload_n X d10_mayHave_5 rfl rfl,
    s_imul X d10_mayHave_6 rfl,
    s_iload_n X d10_mayHave_7 rfl rfl,
    s_iadd X d10_mayHave_8 rfl,
    s_iald X rfl d10_mayHave_9 rfl,
    s_istore X d10_mayHave_10 (by decide) rfl,
    s_aload_n X d10_mayHave_12 rfl rfl,
    s_iload X d10_mayHave_13 rfl,
    s_iload_n X d10_mayHave_15 rfl rfl,
    s_callV ri_NW_ok X (na := 2) (ci := 10) rfl ⟨ri_cB X 2 mgw_1000 (List.mem_cons_of_mem _ mgw_12) (List.mem_cons_of_mem _ mgw_997) (by decide +kernel) rfl rfl ⟨by decide, by decide⟩, X.2.2.2.2.1 _ (List.mem_cons_of_mem _ mgw_999), X.2.2.2.2.1 _ (List.mem_cons_of_mem _ mgp_80)⟩ d10_mayHave_16 rfl,
    s_istore X d10_mayHave_19 (by decide) rfl,
    s_iload X d10_mayHave_21 rfl,
    s_bipush X d10_mayHave_23 rfl rfl,
    s_icmp_eq X d10_mayHave_25 rfl rfl,
    s_iload X d10_mayHave_28 rfl,
    s_iload_n X d10_mayHave_30 rfl rfl,
    s_icmp_ne X d10_mayHave_31 rfl rfl,
    s_iload X d10_mayHave_34 rfl,
    s_if_lt X d10_mayHave_36 rfl rfl,
    s_iload_n X d10_mayHave_39 rfl rfl,
    s_iconst X d10_mayHave_40 rfl rfl,
    s_icmp_lt X d10_mayHave_41 rfl rfl,
    s_aload_n X d10_mayHave_44 rfl rfl,
    s_get X (ci := 10) (f := 10) rfl (fun w h => List.mem_cons_of_mem _ (uC_10 w h)) (by decide) (List.mem_cons_of_mem _ mgw_824) d10_mayHave_45 rfl,
    s_iload_n X d10_mayHave_48 rfl rfl,
    s_iald X rfl d10_mayHave_49 rfl,
    s_bipush X d10_mayHave_50 rfl rfl,
    s_icmp_eq X d10_mayHave_52 rfl rfl,
    s_aload_n X d10_mayHave_55 rfl rfl,
    s_get X (ci := 10) (f := 10) rfl (fun w h => List.mem_cons_of_mem _ (uC_10 w h)) (by decide) (List.mem_cons_of_mem _ mgw_824) d10_mayHave_56 rfl,
    s_iload_n X d10_mayHave_59 rfl rfl,
    s_iald X rfl d10_mayHave_60 rfl,
    s_iload X d10_mayHave_61 rfl,
    s_icmp_ne X d10_mayHave_63 rfl rfl,
    s_iconst X d10_mayHave_66 rfl rfl,
    s_goto X d10_mayHave_67 rfl,
    s_iconst X d10_mayHave_70 rfl rfl,
    s_zret X hret hlocks d10_mayHave_71, trivial⟩
theorem d10_memberOf_0 : decode c10_memberOf 0 = .ok (.aload_n 0, 1) := by decide +kernel
theorem d10_memberOf_1 : decode c10_memberOf 1 = .ok (.iload_n 2, 1) := by decide +kernel
theorem d10_memberOf_2 : decode c10_memberOf 2 = .ok (.invokevirtual 109, 3) := by decide +kernel
theorem d10_memberOf_5 : decode c10_memberOf 5 = .ok (.istore_n 3, 1) := by decide +kernel
theorem d10_memberOf_6 : decode c10_memberOf 6 = .ok (.iconst 0, 1) := by decide +kernel
theorem d10_memberOf_7 : decode c10_memberOf 7 = .ok (.istore 4, 2) := by decide +kernel
theorem d10_memberOf_9 : decode c10_memberOf 9 = .ok (.iload 4, 2) := by decide +kernel
theorem d10_memberOf_11 : decode c10_memberOf 11 = .ok (.iconst 4, 1) := by decide +kernel
theorem d10_memberOf_12 : decode c10_memberOf 12 = .ok (.if_icmp .ge 23, 3) := by decide +kernel
theorem d10_memberOf_15 : decode c10_memberOf 15 = .ok (.aload_n 0, 1) := by decide +kernel
theorem d10_memberOf_16 : decode c10_memberOf 16 = .ok (.iload_n 1, 1) := by decide +kernel
theorem d10_memberOf_17 : decode c10_memberOf 17 = .ok (.iload 4, 2) := by decide +kernel
theorem d10_memberOf_19 : decode c10_memberOf 19 = .ok (.invokevirtual 113, 3) := by decide +kernel
theorem d10_memberOf_22 : decode c10_memberOf 22 = .ok (.iload_n 3, 1) := by decide +kernel
theorem d10_memberOf_23 : decode c10_memberOf 23 = .ok (.if_icmp .ne 6, 3) := by decide +kernel
theorem d10_memberOf_26 : decode c10_memberOf 26 = .ok (.iload 4, 2) := by decide +kernel
theorem d10_memberOf_28 : decode c10_memberOf 28 = .ok (.ireturn, 1) := by decide +kernel
theorem d10_memberOf_29 : decode c10_memberOf 29 = .ok (.iinc 4 1, 3) := by decide +kernel
theorem d10_memberOf_32 : decode c10_memberOf 32 = .ok (.goto (-23), 3) := by decide +kernel
theorem d10_memberOf_35 : decode c10_memberOf 35 = .ok (.iconst (-1), 1) := by decide +kernel
theorem d10_memberOf_36 : decode c10_memberOf 36 = .ok (.ireturn, 1) := by decide +kernel
def t10_memberOf (l : Launch) (Po : ri_O) : List ri_S := [i_al 1 0,
  i_il 2 2,
  i_callV 3 2 10 (ri_Ev l y10_degreeOf w10_degreeOf r10_degreeOf 0 0) 0 0 0 0,
  i_is 4 3,
  i_con 5 0,
  i_is 6 4,
  i_il 7 4,
  i_con 8 4,
  i_icmp 9 19 (fun x y => y ≤ x),
  i_al 10 0,
  i_il 11 1,
  i_il 12 4,
  i_callV 13 3 10 (ri_Ev l y10_degree w10_degree r10_degree 0 0) 0 0 0 0,
  i_il 14 3,
  i_icmp 15 17 (fun x y => ¬ x = y),
  i_il 16 4,
  i_ret Po 0 0,
  i_inc 18 4 1,
  i_goto 6,
  i_con 20 (-1),
  i_ret Po 0 0]
set_option maxRecDepth 20000 in
set_option maxHeartbeats 4000000 in
theorem z10_memberOf (l : Launch) (Po : ri_O) (p : Program) (e : Env) (s : State) (m : MethodId) (args : Array Value) (below : List Frame) (meth : Method) (c : Code) (D : va_G) (ka : Nat → ClassId) (sa : Nat → Nat) (base : Nat) (X : ri_X p s m args c c10_memberOf 5 w10_memberOf "ChoraleSearchModel" D ka sa base) (hret : meth.sig.returnType = (some .int)) (hlocks : meth.locks = false) (hname : meth.name = "memberOf") : ri_clo (ri_W p l e r10_memberOf s m args below meth c D ka sa base 5 (MQ below (ri_Qc D ka sa base Po) args s 0 0 (fun q => base ≤ q)) p10_memberOf) (t10_memberOf l Po) := by
  refine ri_clo_of ?_
  unfold t10_memberOf
  exact ⟨s_aload_n X d10_memberOf_0 rfl rfl,
    s_iload_n X d10_memberOf_1 rfl rfl,
    s_callV ri_NW_ok X (na := 1) (ci := 10) rfl ⟨ri_cB X 1 mgw_1004 (List.mem_cons_of_mem _ mgw_12) (List.mem_cons_of_mem _ mgw_1001) (by decide +kernel) rfl rfl ⟨by decide, by decide⟩, X.2.2.2.2.1 _ (List.mem_cons_of_mem _ mgw_1003), X.2.2.2.2.1 _ (List.mem_cons_of_mem _ mgp_81)⟩ d10_memberOf_2 rfl,
    s_istore_n X d10_memberOf_5 rfl (by decide) rfl,
    s_iconst X d10_memberOf_6 rfl rfl,
    s_istore X d10_memberOf_7 (by decide) rfl,
    s_iload X d10_memberOf_9 rfl,
    s_iconst X d10_memberOf_11 rfl rfl,
    s_icmp_ge X d10_memberOf_12 rfl rfl,
    s_aload_n X d10_memberOf_15 rfl rfl,
    s_iload_n X d10_memberOf_16 rfl rfl,
    s_iload X d10_memberOf_17 rfl,
    s_callV ri_NW_ok X (na := 2) (ci := 10) rfl ⟨ri_cB X 2 mgw_1008 (List.mem_cons_of_mem _ mgw_12) (List.mem_cons_of_mem _ mgw_1005) (by decide +kernel) rfl rfl ⟨by decide, by decide⟩, X.2.2.2.2.1 _ (List.mem_cons_of_mem _ mgw_1007), X.2.2.2.2.1 _ (List.mem_cons_of_mem _ mgp_82)⟩ d10_memberOf_19 rfl,
    s_iload_n X d10_memberOf_22 rfl rfl,
    s_icmp_ne X d10_memberOf_23 rfl rfl,
    s_iload X d10_memberOf_26 rfl,
    s_iret X hret hlocks d10_memberOf_28,
    s_iinc X d10_memberOf_29 rfl (by decide) rfl,
    s_goto X d10_memberOf_32 rfl,
    s_iconst X d10_memberOf_35 rfl rfl,
    s_iret X hret hlocks d10_memberOf_36, trivial⟩
theorem d10_degreeOf_0 : decode c10_degreeOf 0 = .ok (.iload_n 1, 1) := by decide +kernel
theorem d10_degreeOf_1 : decode c10_degreeOf 1 = .ok (.aload_n 0, 1) := by decide +kernel
theorem d10_degreeOf_2 : decode c10_degreeOf 2 = .ok (.getfield 106, 3) := by decide +kernel
theorem d10_degreeOf_5 : decode c10_degreeOf 5 = .ok (.isub, 1) := by decide +kernel
theorem d10_degreeOf_6 : decode c10_degreeOf 6 = .ok (.bipush 120, 2) := by decide +kernel
theorem d10_degreeOf_8 : decode c10_degreeOf 8 = .ok (.iadd, 1) := by decide +kernel
theorem d10_degreeOf_9 : decode c10_degreeOf 9 = .ok (.bipush 12, 2) := by decide +kernel
theorem d10_degreeOf_11 : decode c10_degreeOf 11 = .ok (.irem, 1) := by decide +kernel
theorem d10_degreeOf_12 : decode c10_degreeOf 12 = .ok (.ireturn, 1) := by decide +kernel
def t10_degreeOf (l : Launch) (Po : ri_O) : List ri_S := [i_il 1 1,
  i_al 2 0,
  i_get 3 10 5,
  i_bin 4 (fun x y => x - y),
  i_con 5 120,
  i_bin 6 (fun x y => x + y),
  i_con 7 12,
  i_div 8 (fun x y => x - x / y * y),
  i_ret Po 0 0]
set_option maxRecDepth 20000 in
set_option maxHeartbeats 4000000 in
theorem z10_degreeOf (l : Launch) (Po : ri_O) (p : Program) (e : Env) (s : State) (m : MethodId) (args : Array Value) (below : List Frame) (meth : Method) (c : Code) (D : va_G) (ka : Nat → ClassId) (sa : Nat → Nat) (base : Nat) (X : ri_X p s m args c c10_degreeOf 2 w10_degreeOf "ChoraleSearchModel" D ka sa base) (hret : meth.sig.returnType = (some .int)) (hlocks : meth.locks = false) (hname : meth.name = "degreeOf") : ri_clo (ri_W p l e r10_degreeOf s m args below meth c D ka sa base 2 (MQ below (ri_Qc D ka sa base Po) args s 0 0 (fun q => base ≤ q)) p10_degreeOf) (t10_degreeOf l Po) := by
  refine ri_clo_of ?_
  unfold t10_degreeOf
  exact ⟨s_iload_n X d10_degreeOf_0 rfl rfl,
    s_aload_n X d10_degreeOf_1 rfl rfl,
    s_get X (ci := 10) (f := 5) rfl (fun w h => List.mem_cons_of_mem _ (uC_10 w h)) (by decide) (List.mem_cons_of_mem _ mgw_819) d10_degreeOf_2 rfl,
    s_isub X d10_degreeOf_5 rfl,
    s_bipush X d10_degreeOf_6 rfl rfl,
    s_iadd X d10_degreeOf_8 rfl,
    s_bipush X d10_degreeOf_9 rfl rfl,
    s_irem X d10_degreeOf_11 rfl,
    s_iret X hret hlocks d10_degreeOf_12, trivial⟩
theorem d10_degree_0 : decode c10_degree 0 = .ok (.aload_n 0, 1) := by decide +kernel
theorem d10_degree_1 : decode c10_degree 1 = .ok (.getfield 102, 3) := by decide +kernel
theorem d10_degree_4 : decode c10_degree 4 = .ok (.ifCond .eq 16, 3) := by decide +kernel
theorem d10_degree_7 : decode c10_degree 7 = .ok (.aload_n 0, 1) := by decide +kernel
theorem d10_degree_8 : decode c10_degree 8 = .ok (.getfield 17, 3) := by decide +kernel
theorem d10_degree_11 : decode c10_degree 11 = .ok (.iconst 4, 1) := by decide +kernel
theorem d10_degree_12 : decode c10_degree 12 = .ok (.iload_n 1, 1) := by decide +kernel
theorem d10_degree_13 : decode c10_degree 13 = .ok (.imul, 1) := by decide +kernel
theorem d10_degree_14 : decode c10_degree 14 = .ok (.iload_n 2, 1) := by decide +kernel
theorem d10_degree_15 : decode c10_degree 15 = .ok (.iadd, 1) := by decide +kernel
theorem d10_degree_16 : decode c10_degree 16 = .ok (.iaload, 1) := by decide +kernel
theorem d10_degree_17 : decode c10_degree 17 = .ok (.goto 13, 3) := by decide +kernel
theorem d10_degree_20 : decode c10_degree 20 = .ok (.aload_n 0, 1) := by decide +kernel
theorem d10_degree_21 : decode c10_degree 21 = .ok (.getfield 13, 3) := by decide +kernel
theorem d10_degree_24 : decode c10_degree 24 = .ok (.iconst 4, 1) := by decide +kernel
theorem d10_degree_25 : decode c10_degree 25 = .ok (.iload_n 1, 1) := by decide +kernel
theorem d10_degree_26 : decode c10_degree 26 = .ok (.imul, 1) := by decide +kernel
theorem d10_degree_27 : decode c10_degree 27 = .ok (.iload_n 2, 1) := by decide +kernel
theorem d10_degree_28 : decode c10_degree 28 = .ok (.iadd, 1) := by decide +kernel
theorem d10_degree_29 : decode c10_degree 29 = .ok (.iaload, 1) := by decide +kernel
theorem d10_degree_30 : decode c10_degree 30 = .ok (.ireturn, 1) := by decide +kernel
def t10_degree (l : Launch) (Po : ri_O) : List ri_S := [i_al 1 0,
  i_get 2 10 6,
  i_if 3 12 (fun x => x = 0),
  i_al 4 0,
  i_get 5 10 2,
  i_con 6 4,
  i_il 7 1,
  i_bin 8 (fun x y => x * y),
  i_il 9 2,
  i_bin 10 (fun x y => x + y),
  i_ald 11 0,
  i_goto 20,
  i_al 13 0,
  i_get 14 10 1,
  i_con 15 4,
  i_il 16 1,
  i_bin 17 (fun x y => x * y),
  i_il 18 2,
  i_bin 19 (fun x y => x + y),
  i_ald 20 0,
  i_ret Po 0 0]
set_option maxRecDepth 20000 in
set_option maxHeartbeats 4000000 in
theorem z10_degree (l : Launch) (Po : ri_O) (p : Program) (e : Env) (s : State) (m : MethodId) (args : Array Value) (below : List Frame) (meth : Method) (c : Code) (D : va_G) (ka : Nat → ClassId) (sa : Nat → Nat) (base : Nat) (X : ri_X p s m args c c10_degree 3 w10_degree "ChoraleSearchModel" D ka sa base) (hret : meth.sig.returnType = (some .int)) (hlocks : meth.locks = false) (hname : meth.name = "degree") : ri_clo (ri_W p l e r10_degree s m args below meth c D ka sa base 3 (MQ below (ri_Qc D ka sa base Po) args s 0 0 (fun q => base ≤ q)) p10_degree) (t10_degree l Po) := by
  refine ri_clo_of ?_
  unfold t10_degree
  exact ⟨s_aload_n X d10_degree_0 rfl rfl,
    s_get X (ci := 10) (f := 6) rfl (fun w h => List.mem_cons_of_mem _ (uC_10 w h)) (by decide) (List.mem_cons_of_mem _ mgw_820) d10_degree_1 rfl,
    s_if_eq X d10_degree_4 rfl rfl,
    s_aload_n X d10_degree_7 rfl rfl,
    s_get X (ci := 10) (f := 2) rfl (fun w h => List.mem_cons_of_mem _ (uC_10 w h)) (by decide) (List.mem_cons_of_mem _ mgw_816) d10_degree_8 rfl,
    s_iconst X d10_degree_11 rfl rfl,
    s_iload_n X d10_degree_12 rfl rfl,
    s_imul X d10_degree_13 rfl,
    s_iload_n X d10_degree_14 rfl rfl,
    s_iadd X d10_degree_15 rfl,
    s_iald X rfl d10_degree_16 rfl,
    s_goto X d10_degree_17 rfl,
    s_aload_n X d10_degree_20 rfl rfl,
    s_get X (ci := 10) (f := 1) rfl (fun w h => List.mem_cons_of_mem _ (uC_10 w h)) (by decide) (List.mem_cons_of_mem _ mgw_815) d10_degree_21 rfl,
    s_iconst X d10_degree_24 rfl rfl,
    s_iload_n X d10_degree_25 rfl rfl,
    s_imul X d10_degree_26 rfl,
    s_iload_n X d10_degree_27 rfl rfl,
    s_iadd X d10_degree_28 rfl,
    s_iald X rfl d10_degree_29 rfl,
    s_iret X hret hlocks d10_degree_30, trivial⟩
theorem d10_barsState_0 : decode c10_barsState 0 = .ok (.iconst 0, 1) := by decide +kernel
theorem d10_barsState_1 : decode c10_barsState 1 = .ok (.istore_n 3, 1) := by decide +kernel
theorem d10_barsState_2 : decode c10_barsState 2 = .ok (.aload_n 0, 1) := by decide +kernel
theorem d10_barsState_3 : decode c10_barsState 3 = .ok (.getfield 93, 3) := by decide +kernel
theorem d10_barsState_6 : decode c10_barsState 6 = .ok (.iconst 0, 1) := by decide +kernel
theorem d10_barsState_7 : decode c10_barsState 7 = .ok (.iaload, 1) := by decide +kernel
theorem d10_barsState_8 : decode c10_barsState 8 = .ok (.aload_n 0, 1) := by decide +kernel
theorem d10_barsState_9 : decode c10_barsState 9 = .ok (.getfield 93, 3) := by decide +kernel
theorem d10_barsState_12 : decode c10_barsState 12 = .ok (.iconst 1, 1) := by decide +kernel
theorem d10_barsState_13 : decode c10_barsState 13 = .ok (.iaload, 1) := by decide +kernel
theorem d10_barsState_14 : decode c10_barsState 14 = .ok (.if_icmp .lt 91, 3) := by decide +kernel
theorem d10_barsState_17 : decode c10_barsState 17 = .ok (.aload_n 0, 1) := by decide +kernel
theorem d10_barsState_18 : decode c10_barsState 18 = .ok (.getfield 93, 3) := by decide +kernel
theorem d10_barsState_21 : decode c10_barsState 21 = .ok (.iconst 1, 1) := by decide +kernel
theorem d10_barsState_22 : decode c10_barsState 22 = .ok (.iaload, 1) := by decide +kernel
theorem d10_barsState_23 : decode c10_barsState 23 = .ok (.aload_n 0, 1) := by decide +kernel
theorem d10_barsState_24 : decode c10_barsState 24 = .ok (.getfield 93, 3) := by decide +kernel
theorem d10_barsState_27 : decode c10_barsState 27 = .ok (.iconst 2, 1) := by decide +kernel
theorem d10_barsState_28 : decode c10_barsState 28 = .ok (.iaload, 1) := by decide +kernel
theorem d10_barsState_29 : decode c10_barsState 29 = .ok (.if_icmp .lt 76, 3) := by decide +kernel
theorem d10_barsState_32 : decode c10_barsState 32 = .ok (.aload_n 0, 1) := by decide +kernel
theorem d10_barsState_33 : decode c10_barsState 33 = .ok (.getfield 93, 3) := by decide +kernel
theorem d10_barsState_36 : decode c10_barsState 36 = .ok (.iconst 2, 1) := by decide +kernel
theorem d10_barsState_37 : decode c10_barsState 37 = .ok (.iaload, 1) := by decide +kernel
theorem d10_barsState_38 : decode c10_barsState 38 = .ok (.aload_n 0, 1) := by decide +kernel
theorem d10_barsState_39 : decode c10_barsState 39 = .ok (.getfield 93, 3) := by decide +kernel
theorem d10_barsState_42 : decode c10_barsState 42 = .ok (.iconst 3, 1) := by decide +kernel
theorem d10_barsState_43 : decode c10_barsState 43 = .ok (.iaload, 1) := by decide +kernel
theorem d10_barsState_44 : decode c10_barsState 44 = .ok (.if_icmp .lt 61, 3) := by decide +kernel
theorem d10_barsState_47 : decode c10_barsState 47 = .ok (.aload_n 0, 1) := by decide +kernel
theorem d10_barsState_48 : decode c10_barsState 48 = .ok (.getfield 93, 3) := by decide +kernel
theorem d10_barsState_51 : decode c10_barsState 51 = .ok (.iconst 0, 1) := by decide +kernel
theorem d10_barsState_52 : decode c10_barsState 52 = .ok (.iaload, 1) := by decide +kernel
theorem d10_barsState_53 : decode c10_barsState 53 = .ok (.aload_n 0, 1) := by decide +kernel
theorem d10_barsState_54 : decode c10_barsState 54 = .ok (.getfield 93, 3) := by decide +kernel
theorem d10_barsState_57 : decode c10_barsState 57 = .ok (.iconst 1, 1) := by decide +kernel
theorem d10_barsState_58 : decode c10_barsState 58 = .ok (.iaload, 1) := by decide +kernel
theorem d10_barsState_59 : decode c10_barsState 59 = .ok (.isub, 1) := by decide +kernel
theorem d10_barsState_60 : decode c10_barsState 60 = .ok (.bipush 12, 2) := by decide +kernel
theorem d10_barsState_62 : decode c10_barsState 62 = .ok (.if_icmp .gt 43, 3) := by decide +kernel
theorem d10_barsState_65 : decode c10_barsState 65 = .ok (.aload_n 0, 1) := by decide +kernel
theorem d10_barsState_66 : decode c10_barsState 66 = .ok (.getfield 93, 3) := by decide +kernel
theorem d10_barsState_69 : decode c10_barsState 69 = .ok (.iconst 1, 1) := by decide +kernel
theorem d10_barsState_70 : decode c10_barsState 70 = .ok (.iaload, 1) := by decide +kernel
theorem d10_barsState_71 : decode c10_barsState 71 = .ok (.aload_n 0, 1) := by decide +kernel
theorem d10_barsState_72 : decode c10_barsState 72 = .ok (.getfield 93, 3) := by decide +kernel
theorem d10_barsState_75 : decode c10_barsState 75 = .ok (.iconst 2, 1) := by decide +kernel
theorem d10_barsState_76 : decode c10_barsState 76 = .ok (.iaload, 1) := by decide +kernel
theorem d10_barsState_77 : decode c10_barsState 77 = .ok (.isub, 1) := by decide +kernel
theorem d10_barsState_78 : decode c10_barsState 78 = .ok (.bipush 12, 2) := by decide +kernel
theorem d10_barsState_80 : decode c10_barsState 80 = .ok (.if_icmp .gt 25, 3) := by decide +kernel
theorem d10_barsState_83 : decode c10_barsState 83 = .ok (.aload_n 0, 1) := by decide +kernel
theorem d10_barsState_84 : decode c10_barsState 84 = .ok (.getfield 93, 3) := by decide +kernel
theorem d10_barsState_87 : decode c10_barsState 87 = .ok (.iconst 2, 1) := by decide +kernel
theorem d10_barsState_88 : decode c10_barsState 88 = .ok (.iaload, 1) := by decide +kernel
theorem d10_barsState_89 : decode c10_barsState 89 = .ok (.aload_n 0, 1) := by decide +kernel
theorem d10_barsState_90 : decode c10_barsState 90 = .ok (.getfield 93, 3) := by decide +kernel
theorem d10_barsState_93 : decode c10_barsState 93 = .ok (.iconst 3, 1) := by decide +kernel
theorem d10_barsState_94 : decode c10_barsState 94 = .ok (.iaload, 1) := by decide +kernel
theorem d10_barsState_95 : decode c10_barsState 95 = .ok (.isub, 1) := by decide +kernel
theorem d10_barsState_96 : decode c10_barsState 96 = .ok (.bipush 19, 2) := by decide +kernel
theorem d10_barsState_98 : decode c10_barsState 98 = .ok (.if_icmp .gt 7, 3) := by decide +kernel
theorem d10_barsState_101 : decode c10_barsState 101 = .ok (.iconst 1, 1) := by decide +kernel
theorem d10_barsState_102 : decode c10_barsState 102 = .ok (.goto 4, 3) := by decide +kernel
theorem d10_barsState_105 : decode c10_barsState 105 = .ok (.iconst 0, 1) := by decide +kernel
theorem d10_barsState_106 : decode c10_barsState 106 = .ok (.istore 4, 2) := by decide +kernel
theorem d10_barsState_108 : decode c10_barsState 108 = .ok (.iload 4, 2) := by decide +kernel
theorem d10_barsState_110 : decode c10_barsState 110 = .ok (.ifCond .eq 7, 3) := by decide +kernel
theorem d10_barsState_113 : decode c10_barsState 113 = .ok (.iconst 0, 1) := by decide +kernel
theorem d10_barsState_114 : decode c10_barsState 114 = .ok (.goto 5, 3) := by decide +kernel
theorem d10_barsState_117 : decode c10_barsState 117 = .ok (.bipush 8, 2) := by decide +kernel
theorem d10_barsState_119 : decode c10_barsState 119 = .ok (.istore_n 3, 1) := by decide +kernel
theorem d10_barsState_120 : decode c10_barsState 120 = .ok (.iconst 0, 1) := by decide +kernel
theorem d10_barsState_121 : decode c10_barsState 121 = .ok (.istore 5, 2) := by decide +kernel
theorem d10_barsState_123 : decode c10_barsState 123 = .ok (.iconst 0, 1) := by decide +kernel
theorem d10_barsState_124 : decode c10_barsState 124 = .ok (.istore 6, 2) := by decide +kernel
theorem d10_barsState_126 : decode c10_barsState 126 = .ok (.iconst 0, 1) := by decide +kernel
theorem d10_barsState_127 : decode c10_barsState 127 = .ok (.istore 7, 2) := by decide +kernel
theorem d10_barsState_129 : decode c10_barsState 129 = .ok (.iconst 0, 1) := by decide +kernel
theorem d10_barsState_130 : decode c10_barsState 130 = .ok (.istore 8, 2) := by decide +kernel
theorem d10_barsState_132 : decode c10_barsState 132 = .ok (.iconst 0, 1) := by decide +kernel
theorem d10_barsState_133 : decode c10_barsState 133 = .ok (.istore 9, 2) := by decide +kernel
theorem d10_barsState_135 : decode c10_barsState 135 = .ok (.iload 9, 2) := by decide +kernel
theorem d10_barsState_137 : decode c10_barsState 137 = .ok (.iconst 4, 1) := by decide +kernel
theorem d10_barsState_138 : decode c10_barsState 138 = .ok (.if_icmp .ge 96, 3) := by decide +kernel
theorem d10_barsState_141 : decode c10_barsState 141 = .ok (.aload_n 0, 1) := by decide +kernel
theorem d10_barsState_142 : decode c10_barsState 142 = .ok (.iload_n 2, 1) := by decide +kernel
theorem d10_barsState_143 : decode c10_barsState 143 = .ok (.aload_n 0, 1) := by decide +kernel
theorem d10_barsState_144 : decode c10_barsState 144 = .ok (.getfield 93, 3) := by decide +kernel
theorem d10_barsState_147 : decode c10_barsState 147 = .ok (.iload 9, 2) := by decide +kernel
theorem d10_barsState_149 : decode c10_barsState 149 = .ok (.iaload, 1) := by decide +kernel
theorem d10_barsState_150 : decode c10_barsState 150 = .ok (.invokevirtual 146, 3) := by decide +kernel
theorem d10_barsState_153 : decode c10_barsState 153 = .ok (.istore 10, 2) := by decide +kernel
theorem d10_barsState_155 : decode c10_barsState 155 = .ok (.iload 5, 2) := by decide +kernel
theorem d10_barsState_157 : decode c10_barsState 157 = .ok (.iload 10, 2) := by decide +kernel
theorem d10_barsState_159 : decode c10_barsState 159 = .ok (.ifCond .ne 7, 3) := by decide +kernel
theorem d10_barsState_162 : decode c10_barsState 162 = .ok (.iconst 1, 1) := by decide +kernel
theorem d10_barsState_163 : decode c10_barsState 163 = .ok (.goto 4, 3) := by decide +kernel
theorem d10_barsState_166 : decode c10_barsState 166 = .ok (.iconst 0, 1) := by decide +kernel
theorem d10_barsState_167 : decode c10_barsState 167 = .ok (.iadd, 1) := by decide +kernel
theorem d10_barsState_168 : decode c10_barsState 168 = .ok (.istore 5, 2) := by decide +kernel
theorem d10_barsState_170 : decode c10_barsState 170 = .ok (.iload 6, 2) := by decide +kernel
theorem d10_barsState_172 : decode c10_barsState 172 = .ok (.iload 10, 2) := by decide +kernel
theorem d10_barsState_174 : decode c10_barsState 174 = .ok (.iconst 1, 1) := by decide +kernel
theorem d10_barsState_175 : decode c10_barsState 175 = .ok (.if_icmp .ne 7, 3) := by decide +kernel
theorem d10_barsState_178 : decode c10_barsState 178 = .ok (.iconst 1, 1) := by decide +kernel
theorem d10_barsState_179 : decode c10_barsState 179 = .ok (.goto 4, 3) := by decide +kernel
theorem d10_barsState_182 : decode c10_barsState 182 = .ok (.iconst 0, 1) := by decide +kernel
theorem d10_barsState_183 : decode c10_barsState 183 = .ok (.iadd, 1) := by decide +kernel
theorem d10_barsState_184 : decode c10_barsState 184 = .ok (.istore 6, 2) := by decide +kernel
theorem d10_barsState_186 : decode c10_barsState 186 = .ok (.iload 7, 2) := by decide +kernel
theorem d10_barsState_188 : decode c10_barsState 188 = .ok (.iload 10, 2) := by decide +kernel
theorem d10_barsState_190 : decode c10_barsState 190 = .ok (.iconst 3, 1) := by decide +kernel
theorem d10_barsState_191 : decode c10_barsState 191 = .ok (.if_icmp .ne 7, 3) := by decide +kernel
theorem d10_barsState_194 : decode c10_barsState 194 = .ok (.iconst 1, 1) := by decide +kernel
theorem d10_barsState_195 : decode c10_barsState 195 = .ok (.goto 4, 3) := by decide +kernel
theorem d10_barsState_198 : decode c10_barsState 198 = .ok (.iconst 0, 1) := by decide +kernel
theorem d10_barsState_199 : decode c10_barsState 199 = .ok (.iadd, 1) := by decide +kernel
theorem d10_barsState_200 : decode c10_barsState 200 = .ok (.istore 7, 2) := by decide +kernel
theorem d10_barsState_202 : decode c10_barsState 202 = .ok (.iload 8, 2) := by decide +kernel
theorem d10_barsState_204 : decode c10_barsState 204 = .ok (.aload_n 0, 1) := by decide +kernel
theorem d10_barsState_205 : decode c10_barsState 205 = .ok (.aload_n 0, 1) := by decide +kernel
theorem d10_barsState_206 : decode c10_barsState 206 = .ok (.getfield 93, 3) := by decide +kernel
theorem d10_barsState_209 : decode c10_barsState 209 = .ok (.iload 9, 2) := by decide +kernel
theorem d10_barsState_211 : decode c10_barsState 211 = .ok (.iaload, 1) := by decide +kernel
theorem d10_barsState_212 : decode c10_barsState 212 = .ok (.invokevirtual 109, 3) := by decide +kernel
theorem d10_barsState_215 : decode c10_barsState 215 = .ok (.bipush 11, 2) := by decide +kernel
theorem d10_barsState_217 : decode c10_barsState 217 = .ok (.if_icmp .ne 7, 3) := by decide +kernel
theorem d10_barsState_220 : decode c10_barsState 220 = .ok (.iconst 1, 1) := by decide +kernel
theorem d10_barsState_221 : decode c10_barsState 221 = .ok (.goto 4, 3) := by decide +kernel
theorem d10_barsState_224 : decode c10_barsState 224 = .ok (.iconst 0, 1) := by decide +kernel
theorem d10_barsState_225 : decode c10_barsState 225 = .ok (.iadd, 1) := by decide +kernel
theorem d10_barsState_226 : decode c10_barsState 226 = .ok (.istore 8, 2) := by decide +kernel
theorem d10_barsState_228 : decode c10_barsState 228 = .ok (.iinc 9 1, 3) := by decide +kernel
theorem d10_barsState_231 : decode c10_barsState 231 = .ok (.goto (-96), 3) := by decide +kernel
theorem d10_barsState_234 : decode c10_barsState 234 = .ok (.iload 5, 2) := by decide +kernel
theorem d10_barsState_236 : decode c10_barsState 236 = .ok (.ifCond .eq 22, 3) := by decide +kernel
theorem d10_barsState_239 : decode c10_barsState 239 = .ok (.iload 6, 2) := by decide +kernel
theorem d10_barsState_241 : decode c10_barsState 241 = .ok (.ifCond .eq 17, 3) := by decide +kernel
theorem d10_barsState_244 : decode c10_barsState 244 = .ok (.aload_n 0, 1) := by decide +kernel
theorem d10_barsState_245 : decode c10_barsState 245 = .ok (.iload_n 2, 1) := by decide +kernel
theorem d10_barsState_246 : decode c10_barsState 246 = .ok (.iconst 3, 1) := by decide +kernel
theorem d10_barsState_247 : decode c10_barsState 247 = .ok (.invokevirtual 113, 3) := by decide +kernel
theorem d10_barsState_250 : decode c10_barsState 250 = .ok (.ifCond .lt 13, 3) := by decide +kernel
theorem d10_barsState_253 : decode c10_barsState 253 = .ok (.iload 7, 2) := by decide +kernel
theorem d10_barsState_255 : decode c10_barsState 255 = .ok (.ifCond .ne 8, 3) := by decide +kernel
theorem d10_barsState_258 : decode c10_barsState 258 = .ok (.iload_n 3, 1) := by decide +kernel
theorem d10_barsState_259 : decode c10_barsState 259 = .ok (.bipush 16, 2) := by decide +kernel
theorem d10_barsState_261 : decode c10_barsState 261 = .ok (.ior, 1) := by decide +kernel
theorem d10_barsState_262 : decode c10_barsState 262 = .ok (.istore_n 3, 1) := by decide +kernel
theorem d10_barsState_263 : decode c10_barsState 263 = .ok (.iload_n 2, 1) := by decide +kernel
theorem d10_barsState_264 : decode c10_barsState 264 = .ok (.iconst 4, 1) := by decide +kernel
theorem d10_barsState_265 : decode c10_barsState 265 = .ok (.if_icmp .eq 27, 3) := by decide +kernel
theorem d10_barsState_268 : decode c10_barsState 268 = .ok (.iload_n 2, 1) := by decide +kernel
theorem d10_barsState_269 : decode c10_barsState 269 = .ok (.bipush 6, 2) := by decide +kernel
theorem d10_barsState_271 : decode c10_barsState 271 = .ok (.if_icmp .eq 21, 3) := by decide +kernel
theorem d10_barsState_274 : decode c10_barsState 274 = .ok (.iload_n 2, 1) := by decide +kernel
theorem d10_barsState_275 : decode c10_barsState 275 = .ok (.bipush 7, 2) := by decide +kernel
theorem d10_barsState_277 : decode c10_barsState 277 = .ok (.if_icmp .eq 15, 3) := by decide +kernel
theorem d10_barsState_280 : decode c10_barsState 280 = .ok (.iload_n 2, 1) := by decide +kernel
theorem d10_barsState_281 : decode c10_barsState 281 = .ok (.iconst 2, 1) := by decide +kernel
theorem d10_barsState_282 : decode c10_barsState 282 = .ok (.if_icmp .ne 14, 3) := by decide +kernel
theorem d10_barsState_285 : decode c10_barsState 285 = .ok (.aload_n 0, 1) := by decide +kernel
theorem d10_barsState_286 : decode c10_barsState 286 = .ok (.getfield 102, 3) := by decide +kernel
theorem d10_barsState_289 : decode c10_barsState 289 = .ok (.ifCond .ne 7, 3) := by decide +kernel
theorem d10_barsState_292 : decode c10_barsState 292 = .ok (.iconst 1, 1) := by decide +kernel
theorem d10_barsState_293 : decode c10_barsState 293 = .ok (.goto 4, 3) := by decide +kernel
theorem d10_barsState_296 : decode c10_barsState 296 = .ok (.iconst 0, 1) := by decide +kernel
theorem d10_barsState_297 : decode c10_barsState 297 = .ok (.istore 9, 2) := by decide +kernel
theorem d10_barsState_299 : decode c10_barsState 299 = .ok (.iload 9, 2) := by decide +kernel
theorem d10_barsState_301 : decode c10_barsState 301 = .ok (.ifCond .eq 9, 3) := by decide +kernel
theorem d10_barsState_304 : decode c10_barsState 304 = .ok (.iload 8, 2) := by decide +kernel
theorem d10_barsState_306 : decode c10_barsState 306 = .ok (.iconst 1, 1) := by decide +kernel
theorem d10_barsState_307 : decode c10_barsState 307 = .ok (.if_icmp .gt 9, 3) := by decide +kernel
theorem d10_barsState_310 : decode c10_barsState 310 = .ok (.iload 7, 2) := by decide +kernel
theorem d10_barsState_312 : decode c10_barsState 312 = .ok (.iconst 1, 1) := by decide +kernel
theorem d10_barsState_313 : decode c10_barsState 313 = .ok (.if_icmp .le 8, 3) := by decide +kernel
theorem d10_barsState_316 : decode c10_barsState 316 = .ok (.iload_n 3, 1) := by decide +kernel
theorem d10_barsState_317 : decode c10_barsState 317 = .ok (.bipush 32, 2) := by decide +kernel
theorem d10_barsState_319 : decode c10_barsState 319 = .ok (.ior, 1) := by decide +kernel
theorem d10_barsState_320 : decode c10_barsState 320 = .ok (.istore_n 3, 1) := by decide +kernel
theorem d10_barsState_321 : decode c10_barsState 321 = .ok (.iload_n 1, 1) := by decide +kernel
theorem d10_barsState_322 : decode c10_barsState 322 = .ok (.aload_n 0, 1) := by decide +kernel
theorem d10_barsState_323 : decode c10_barsState 323 = .ok (.getfield 26, 3) := by decide +kernel
theorem d10_barsState_326 : decode c10_barsState 326 = .ok (.iconst 1, 1) := by decide +kernel
theorem d10_barsState_327 : decode c10_barsState 327 = .ok (.isub, 1) := by decide +kernel
theorem d10_barsState_328 : decode c10_barsState 328 = .ok (.if_icmp .ne 25, 3) := by decide +kernel
theorem d10_barsState_331 : decode c10_barsState 331 = .ok (.iload_n 2, 1) := by decide +kernel
theorem d10_barsState_332 : decode c10_barsState 332 = .ok (.ifCond .ne 17, 3) := by decide +kernel
theorem d10_barsState_335 : decode c10_barsState 335 = .ok (.aload_n 0, 1) := by decide +kernel
theorem d10_barsState_336 : decode c10_barsState 336 = .ok (.iload_n 2, 1) := by decide +kernel
theorem d10_barsState_337 : decode c10_barsState 337 = .ok (.aload_n 0, 1) := by decide +kernel
theorem d10_barsState_338 : decode c10_barsState 338 = .ok (.getfield 93, 3) := by decide +kernel
theorem d10_barsState_341 : decode c10_barsState 341 = .ok (.iconst 3, 1) := by decide +kernel
theorem d10_barsState_342 : decode c10_barsState 342 = .ok (.iaload, 1) := by decide +kernel
theorem d10_barsState_343 : decode c10_barsState 343 = .ok (.invokevirtual 146, 3) := by decide +kernel
theorem d10_barsState_346 : decode c10_barsState 346 = .ok (.ifCond .eq 7, 3) := by decide +kernel
theorem d10_barsState_349 : decode c10_barsState 349 = .ok (.iconst 1, 1) := by decide +kernel
theorem d10_barsState_350 : decode c10_barsState 350 = .ok (.goto 4, 3) := by decide +kernel
theorem d10_barsState_353 : decode c10_barsState 353 = .ok (.iconst 0, 1) := by decide +kernel
theorem d10_barsState_354 : decode c10_barsState 354 = .ok (.istore 10, 2) := by decide +kernel
theorem d10_barsState_356 : decode c10_barsState 356 = .ok (.aload_n 0, 1) := by decide +kernel
theorem d10_barsState_357 : decode c10_barsState 357 = .ok (.getfield 38, 3) := by decide +kernel
theorem d10_barsState_360 : decode c10_barsState 360 = .ok (.iload_n 1, 1) := by decide +kernel
theorem d10_barsState_361 : decode c10_barsState 361 = .ok (.baload, 1) := by decide +kernel
theorem d10_barsState_362 : decode c10_barsState 362 = .ok (.ifCond .eq 21, 3) := by decide +kernel
theorem d10_barsState_365 : decode c10_barsState 365 = .ok (.iload_n 2, 1) := by decide +kernel
theorem d10_barsState_366 : decode c10_barsState 366 = .ok (.ifCond .eq 17, 3) := by decide +kernel
theorem d10_barsState_369 : decode c10_barsState 369 = .ok (.iload_n 2, 1) := by decide +kernel
theorem d10_barsState_370 : decode c10_barsState 370 = .ok (.iconst 4, 1) := by decide +kernel
theorem d10_barsState_371 : decode c10_barsState 371 = .ok (.if_icmp .eq 12, 3) := by decide +kernel
theorem d10_barsState_374 : decode c10_barsState 374 = .ok (.iload_n 2, 1) := by decide +kernel
theorem d10_barsState_375 : decode c10_barsState 375 = .ok (.iconst 5, 1) := by decide +kernel
theorem d10_barsState_376 : decode c10_barsState 376 = .ok (.if_icmp .eq 7, 3) := by decide +kernel
theorem d10_barsState_379 : decode c10_barsState 379 = .ok (.iconst 1, 1) := by decide +kernel
theorem d10_barsState_380 : decode c10_barsState 380 = .ok (.goto 4, 3) := by decide +kernel
theorem d10_barsState_383 : decode c10_barsState 383 = .ok (.iconst 0, 1) := by decide +kernel
theorem d10_barsState_384 : decode c10_barsState 384 = .ok (.istore 11, 2) := by decide +kernel
theorem d10_barsState_386 : decode c10_barsState 386 = .ok (.iload 10, 2) := by decide +kernel
theorem d10_barsState_388 : decode c10_barsState 388 = .ok (.ifCond .ne 8, 3) := by decide +kernel
theorem d10_barsState_391 : decode c10_barsState 391 = .ok (.iload 11, 2) := by decide +kernel
theorem d10_barsState_393 : decode c10_barsState 393 = .ok (.ifCond .eq 10, 3) := by decide +kernel
theorem d10_barsState_396 : decode c10_barsState 396 = .ok (.iload_n 3, 1) := by decide +kernel
theorem d10_barsState_397 : decode c10_barsState 397 = .ok (.bipush 64, 2) := by decide +kernel
theorem d10_barsState_399 : decode c10_barsState 399 = .ok (.ior, 1) := by decide +kernel
theorem d10_barsState_400 : decode c10_barsState 400 = .ok (.goto 4, 3) := by decide +kernel
theorem d10_barsState_403 : decode c10_barsState 403 = .ok (.iload_n 3, 1) := by decide +kernel
theorem d10_barsState_404 : decode c10_barsState 404 = .ok (.ireturn, 1) := by decide +kernel
def t10_barsState (l : Launch) (Po : ri_O) : List ri_S := [i_con 1 0,
  i_is 2 3,
  i_al 3 0,
  i_get 4 10 31,
  i_con 5 0,
  i_ald 6 0,
  i_al 7 0,
  i_get 8 10 31,
  i_con 9 1,
  i_ald 10 0,
  i_icmp 11 64 (fun x y => x < y),
  i_al 12 0,
  i_get 13 10 31,
  i_con 14 1,
  i_ald 15 0,
  i_al 16 0,
  i_get 17 10 31,
  i_con 18 2,
  i_ald 19 0,
  i_icmp 20 64 (fun x y => x < y),
  i_al 21 0,
  i_get 22 10 31,
  i_con 23 2,
  i_ald 24 0,
  i_al 25 0,
  i_get 26 10 31,
  i_con 27 3,
  i_ald 28 0,
  i_icmp 29 64 (fun x y => x < y),
  i_al 30 0,
  i_get 31 10 31,
  i_con 32 0,
  i_ald 33 0,
  i_al 34 0,
  i_get 35 10 31,
  i_con 36 1,
  i_ald 37 0,
  i_bin 38 (fun x y => x - y),
  i_con 39 12,
  i_icmp 40 64 (fun x y => y < x),
  i_al 41 0,
  i_get 42 10 31,
  i_con 43 1,
  i_ald 44 0,
  i_al 45 0,
  i_get 46 10 31,
  i_con 47 2,
  i_ald 48 0,
  i_bin 49 (fun x y => x - y),
  i_con 50 12,
  i_icmp 51 64 (fun x y => y < x),
  i_al 52 0,
  i_get 53 10 31,
  i_con 54 2,
  i_ald 55 0,
  i_al 56 0,
  i_get 57 10 31,
  i_con 58 3,
  i_ald 59 0,
  i_bin 60 (fun x y => x - y),
  i_con 61 19,
  i_icmp 62 64 (fun x y => y < x),
  i_con 63 1,
  i_goto 65,
  i_con 65 0,
  i_is 66 4,
  i_il 67 4,
  i_if 68 70 (fun x => x = 0),
  i_con 69 0,
  i_goto 71,
  i_con 71 8,
  i_is 72 3,
  i_con 73 0,
  i_is 74 5,
  i_con 75 0,
  i_is 76 6,
  i_con 77 0,
  i_is 78 7,
  i_con 79 0,
  i_is 80 8,
  i_con 81 0,
  i_is 82 9,
  i_il 83 9,
  i_con 84 4,
  i_icmp 85 135 (fun x y => y ≤ x),
  i_al 86 0,
  i_il 87 2,
  i_al 88 0,
  i_get 89 10 31,
  i_il 90 9,
  i_ald 91 0,
  i_callV 92 3 10 (ri_Ev l y10_memberOf w10_memberOf r10_memberOf 0 0) 0 0 0 0,
  i_is 93 10,
  i_il 94 5,
  i_il 95 10,
  i_if 96 98 (fun x => ¬ x = 0),
  i_con 97 1,
  i_goto 99,
  i_con 99 0,
  i_bin 100 (fun x y => x + y),
  i_is 101 5,
  i_il 102 6,
  i_il 103 10,
  i_con 104 1,
  i_icmp 105 107 (fun x y => ¬ x = y),
  i_con 106 1,
  i_goto 108,
  i_con 108 0,
  i_bin 109 (fun x y => x + y),
  i_is 110 6,
  i_il 111 7,
  i_il 112 10,
  i_con 113 3,
  i_icmp 114 116 (fun x y => ¬ x = y),
  i_con 115 1,
  i_goto 117,
  i_con 117 0,
  i_bin 118 (fun x y => x + y),
  i_is 119 7,
  i_il 120 8,
  i_al 121 0,
  i_al 122 0,
  i_get 123 10 31,
  i_il 124 9,
  i_ald 125 0,
  i_callV 126 2 10 (ri_Ev l y10_degreeOf w10_degreeOf r10_degreeOf 0 0) 0 0 0 0,
  i_con 127 11,
  i_icmp 128 130 (fun x y => ¬ x = y),
  i_con 129 1,
  i_goto 131,
  i_con 131 0,
  i_bin 132 (fun x y => x + y),
  i_is 133 8,
  i_inc 134 9 1,
  i_goto 82,
  i_il 136 5,
  i_if 137 146 (fun x => x = 0),
  i_il 138 6,
  i_if 139 146 (fun x => x = 0),
  i_al 140 0,
  i_il 141 2,
  i_con 142 3,
  i_callV 143 3 10 (ri_Ev l y10_degree w10_degree r10_degree 0 0) 0 0 0 0,
  i_if 144 150 (fun x => x < 0),
  i_il 145 7,
  i_if 146 150 (fun x => ¬ x = 0),
  i_il 147 3,
  i_con 148 16,
  i_bin 149 (fun x y => x ||| y),
  i_is 150 3,
  i_il 151 2,
  i_con 152 4,
  i_icmp 153 165 (fun x y => x = y),
  i_il 154 2,
  i_con 155 6,
  i_icmp 156 165 (fun x y => x = y),
  i_il 157 2,
  i_con 158 7,
  i_icmp 159 165 (fun x y => x = y),
  i_il 160 2,
  i_con 161 2,
  i_icmp 162 167 (fun x y => ¬ x = y),
  i_al 163 0,
  i_get 164 10 6,
  i_if 165 167 (fun x => ¬ x = 0),
  i_con 166 1,
  i_goto 168,
  i_con 168 0,
  i_is 169 9,
  i_il 170 9,
  i_if 171 174 (fun x => x = 0),
  i_il 172 8,
  i_con 173 1,
  i_icmp 174 177 (fun x y => y < x),
  i_il 175 7,
  i_con 176 1,
  i_icmp 177 181 (fun x y => x ≤ y),
  i_il 178 3,
  i_con 179 32,
  i_bin 180 (fun x y => x ||| y),
  i_is 181 3,
  i_il 182 1,
  i_al 183 0,
  i_get 184 10 7,
  i_con 185 1,
  i_bin 186 (fun x y => x - y),
  i_icmp 187 199 (fun x y => ¬ x = y),
  i_il 188 2,
  i_if 189 197 (fun x => ¬ x = 0),
  i_al 190 0,
  i_il 191 2,
  i_al 192 0,
  i_get 193 10 31,
  i_con 194 3,
  i_ald 195 0,
  i_callV 196 3 10 (ri_Ev l y10_memberOf w10_memberOf r10_memberOf 0 0) 0 0 0 0,
  i_if 197 199 (fun x => x = 0),
  i_con 198 1,
  i_goto 200,
  i_con 200 0,
  i_is 201 10,
  i_al 202 0,
  i_get 203 10 11,
  i_il 204 1,
  i_ald 205 1,
  i_if 206 216 (fun x => x = 0),
  i_il 207 2,
  i_if 208 216 (fun x => x = 0),
  i_il 209 2,
  i_con 210 4,
  i_icmp 211 216 (fun x y => x = y),
  i_il 212 2,
  i_con 213 5,
  i_icmp 214 216 (fun x y => x = y),
  i_con 215 1,
  i_goto 217,
  i_con 217 0,
  i_is 218 11,
  i_il 219 10,
  i_if 220 222 (fun x => ¬ x = 0),
  i_il 221 11,
  i_if 222 226 (fun x => x = 0),
  i_il 223 3,
  i_con 224 64,
  i_bin 225 (fun x y => x ||| y),
  i_goto 227,
  i_il 227 3,
  i_ret Po 0 0]
set_option maxRecDepth 20000 in
set_option maxHeartbeats 4000000 in
theorem z10_barsState (l : Launch) (Po : ri_O) (p : Program) (e : Env) (s : State) (m : MethodId) (args : Array Value) (below : List Frame) (meth : Method) (c : Code) (D : va_G) (ka : Nat → ClassId) (sa : Nat → Nat) (base : Nat) (X : ri_X p s m args c c10_barsState 12 w10_barsState "ChoraleSearchModel" D ka sa base) (hret : meth.sig.returnType = (some .int)) (hlocks : meth.locks = false) (hname : meth.name = "barsState") : ri_clo (ri_W p l e r10_barsState s m args below meth c D ka sa base 12 (MQ below (ri_Qc D ka sa base Po) args s 0 0 (fun q => base ≤ q)) p10_barsState) (t10_barsState l Po) := by
  refine ri_clo_of ?_
  unfold t10_barsState
  exact ⟨s_iconst X d10_barsState_0 rfl rfl,
    s_istore_n X d10_barsState_1 rfl (by decide) rfl,
    s_aload_n X d10_barsState_2 rfl rfl,
    s_get X (ci := 10) (f := 31) rfl (fun w h => List.mem_cons_of_mem _ (uC_10 w h)) (by decide) (List.mem_cons_of_mem _ mgw_845) d10_barsState_3 rfl,
    s_iconst X d10_barsState_6 rfl rfl,
    s_iald X rfl d10_barsState_7 rfl,
    s_aload_n X d10_barsState_8 rfl rfl,
    s_get X (ci := 10) (f := 31) rfl (fun w h => List.mem_cons_of_mem _ (uC_10 w h)) (by decide) (List.mem_cons_of_mem _ mgw_845) d10_barsState_9 rfl,
    s_iconst X d10_barsState_12 rfl rfl,
    s_iald X rfl d10_barsState_13 rfl,
    s_icmp_lt X d10_barsState_14 rfl rfl,
    s_aload_n X d10_barsState_17 rfl rfl,
    s_get X (ci := 10) (f := 31) rfl (fun w h => List.mem_cons_of_mem _ (uC_10 w h)) (by decide) (List.mem_cons_of_mem _ mgw_845) d10_barsState_18 rfl,
    s_iconst X d10_barsState_21 rfl rfl,
    s_iald X rfl d10_barsState_22 rfl,
    s_aload_n X d10_barsState_23 rfl rfl,
    s_get X (ci := 10) (f := 31) rfl (fun w h => List.mem_cons_of_mem _ (uC_10 w h)) (by decide) (List.mem_cons_of_mem _ mgw_845) d10_barsState_24 rfl,
    s_iconst X d10_barsState_27 rfl rfl,
    s_iald X rfl d10_barsState_28 rfl,
    s_icmp_lt X d10_barsState_29 rfl rfl,
    s_aload_n X d10_barsState_32 rfl rfl,
    s_get X (ci := 10) (f := 31) rfl (fun w h => List.mem_cons_of_mem _ (uC_10 w h)) (by decide) (List.mem_cons_of_mem _ mgw_845) d10_barsState_33 rfl,
    s_iconst X d10_barsState_36 rfl rfl,
    s_iald X rfl d10_barsState_37 rfl,
    s_aload_n X d10_barsState_38 rfl rfl,
    s_get X (ci := 10) (f := 31) rfl (fun w h => List.mem_cons_of_mem _ (uC_10 w h)) (by decide) (List.mem_cons_of_mem _ mgw_845) d10_barsState_39 rfl,
    s_iconst X d10_barsState_42 rfl rfl,
    s_iald X rfl d10_barsState_43 rfl,
    s_icmp_lt X d10_barsState_44 rfl rfl,
    s_aload_n X d10_barsState_47 rfl rfl,
    s_get X (ci := 10) (f := 31) rfl (fun w h => List.mem_cons_of_mem _ (uC_10 w h)) (by decide) (List.mem_cons_of_mem _ mgw_845) d10_barsState_48 rfl,
    s_iconst X d10_barsState_51 rfl rfl,
    s_iald X rfl d10_barsState_52 rfl,
    s_aload_n X d10_barsState_53 rfl rfl,
    s_get X (ci := 10) (f := 31) rfl (fun w h => List.mem_cons_of_mem _ (uC_10 w h)) (by decide) (List.mem_cons_of_mem _ mgw_845) d10_barsState_54 rfl,
    s_iconst X d10_barsState_57 rfl rfl,
    s_iald X rfl d10_barsState_58 rfl,
    s_isub X d10_barsState_59 rfl,
    s_bipush X d10_barsState_60 rfl rfl,
    s_icmp_gt X d10_barsState_62 rfl rfl,
    s_aload_n X d10_barsState_65 rfl rfl,
    s_get X (ci := 10) (f := 31) rfl (fun w h => List.mem_cons_of_mem _ (uC_10 w h)) (by decide) (List.mem_cons_of_mem _ mgw_845) d10_barsState_66 rfl,
    s_iconst X d10_barsState_69 rfl rfl,
    s_iald X rfl d10_barsState_70 rfl,
    s_aload_n X d10_barsState_71 rfl rfl,
    s_get X (ci := 10) (f := 31) rfl (fun w h => List.mem_cons_of_mem _ (uC_10 w h)) (by decide) (List.mem_cons_of_mem _ mgw_845) d10_barsState_72 rfl,
    s_iconst X d10_barsState_75 rfl rfl,
    s_iald X rfl d10_barsState_76 rfl,
    s_isub X d10_barsState_77 rfl,
    s_bipush X d10_barsState_78 rfl rfl,
    s_icmp_gt X d10_barsState_80 rfl rfl,
    s_aload_n X d10_barsState_83 rfl rfl,
    s_get X (ci := 10) (f := 31) rfl (fun w h => List.mem_cons_of_mem _ (uC_10 w h)) (by decide) (List.mem_cons_of_mem _ mgw_845) d10_barsState_84 rfl,
    s_iconst X d10_barsState_87 rfl rfl,
    s_iald X rfl d10_barsState_88 rfl,
    s_aload_n X d10_barsState_89 rfl rfl,
    s_get X (ci := 10) (f := 31) rfl (fun w h => List.mem_cons_of_mem _ (uC_10 w h)) (by decide) (List.mem_cons_of_mem _ mgw_845) d10_barsState_90 rfl,
    s_iconst X d10_barsState_93 rfl rfl,
    s_iald X rfl d10_barsState_94 rfl,
    s_isub X d10_barsState_95 rfl,
    s_bipush X d10_barsState_96 rfl rfl,
    s_icmp_gt X d10_barsState_98 rfl rfl,
    s_iconst X d10_barsState_101 rfl rfl,
    s_goto X d10_barsState_102 rfl,
    s_iconst X d10_barsState_105 rfl rfl,
    s_istore X d10_barsState_106 (by decide) rfl,
    s_iload X d10_barsState_108 rfl,
    s_if_eq X d10_barsState_110 rfl rfl,
    s_iconst X d10_barsState_113 rfl rfl,
    s_goto X d10_barsState_114 rfl,
    s_bipush X d10_barsState_117 rfl rfl,
    s_istore_n X d10_barsState_119 rfl (by decide) rfl,
    s_iconst X d10_barsState_120 rfl rfl,
    s_istore X d10_barsState_121 (by decide) rfl,
    s_iconst X d10_barsState_123 rfl rfl,
    s_istore X d10_barsState_124 (by decide) rfl,
    s_iconst X d10_barsState_126 rfl rfl,
    s_istore X d10_barsState_127 (by decide) rfl,
    s_iconst X d10_barsState_129 rfl rfl,
    s_istore X d10_barsState_130 (by decide) rfl,
    s_iconst X d10_barsState_132 rfl rfl,
    s_istore X d10_barsState_133 (by decide) rfl,
    s_iload X d10_barsState_135 rfl,
    s_iconst X d10_barsState_137 rfl rfl,
    s_icmp_ge X d10_barsState_138 rfl rfl,
    s_aload_n X d10_barsState_141 rfl rfl,
    s_iload_n X d10_barsState_142 rfl rfl,
    s_aload_n X d10_barsState_143 rfl rfl,
    s_get X (ci := 10) (f := 31) rfl (fun w h => List.mem_cons_of_mem _ (uC_10 w h)) (by decide) (List.mem_cons_of_mem _ mgw_845) d10_barsState_144 rfl,
    s_iload X d10_barsState_147 rfl,
    s_iald X rfl d10_barsState_149 rfl,
    s_callV ri_NW_ok X (na := 2) (ci := 10) rfl ⟨ri_cB X 2 mgw_1000 (List.mem_cons_of_mem _ mgw_12) (List.mem_cons_of_mem _ mgw_997) (by decide +kernel) rfl rfl ⟨by decide, by decide⟩, X.2.2.2.2.1 _ (List.mem_cons_of_mem _ mgw_999), X.2.2.2.2.1 _ (List.mem_cons_of_mem _ mgp_80)⟩ d10_barsState_150 rfl,
    s_istore X d10_barsState_153 (by decide) rfl,
    s_iload X d10_barsState_155 rfl,
    s_iload X d10_barsState_157 rfl,
    s_if_ne X d10_barsState_159 rfl rfl,
    s_iconst X d10_barsState_162 rfl rfl,
    s_goto X d10_barsState_163 rfl,
    s_iconst X d10_barsState_166 rfl rfl,
    s_iadd X d10_barsState_167 rfl,
    s_istore X d10_barsState_168 (by decide) rfl,
    s_iload X d10_barsState_170 rfl,
    s_iload X d10_barsState_172 rfl,
    s_iconst X d10_barsState_174 rfl rfl,
    s_icmp_ne X d10_barsState_175 rfl rfl,
    s_iconst X d10_barsState_178 rfl rfl,
    s_goto X d10_barsState_179 rfl,
    s_iconst X d10_barsState_182 rfl rfl,
    s_iadd X d10_barsState_183 rfl,
    s_istore X d10_barsState_184 (by decide) rfl,
    s_iload X d10_barsState_186 rfl,
    s_iload X d10_barsState_188 rfl,
    s_iconst X d10_barsState_190 rfl rfl,
    s_icmp_ne X d10_barsState_191 rfl rfl,
    s_iconst X d10_barsState_194 rfl rfl,
    s_goto X d10_barsState_195 rfl,
    s_iconst X d10_barsState_198 rfl rfl,
    s_iadd X d10_barsState_199 rfl,
    s_istore X d10_barsState_200 (by decide) rfl,
    s_iload X d10_barsState_202 rfl,
    s_aload_n X d10_barsState_204 rfl rfl,
    s_aload_n X d10_barsState_205 rfl rfl,
    s_get X (ci := 10) (f := 31) rfl (fun w h => List.mem_cons_of_mem _ (uC_10 w h)) (by decide) (List.mem_cons_of_mem _ mgw_845) d10_barsState_206 rfl,
    s_iload X d10_barsState_209 rfl,
    s_iald X rfl d10_barsState_211 rfl,
    s_callV ri_NW_ok X (na := 1) (ci := 10) rfl ⟨ri_cB X 1 mgw_1004 (List.mem_cons_of_mem _ mgw_12) (List.mem_cons_of_mem _ mgw_1001) (by decide +kernel) rfl rfl ⟨by decide, by decide⟩, X.2.2.2.2.1 _ (List.mem_cons_of_mem _ mgw_1003), X.2.2.2.2.1 _ (List.mem_cons_of_mem _ mgp_81)⟩ d10_barsState_212 rfl,
    s_bipush X d10_barsState_215 rfl rfl,
    s_icmp_ne X d10_barsState_217 rfl rfl,
    s_iconst X d10_barsState_220 rfl rfl,
    s_goto X d10_barsState_221 rfl,
    s_iconst X d10_barsState_224 rfl rfl,
    s_iadd X d10_barsState_225 rfl,
    s_istore X d10_barsState_226 (by decide) rfl,
    s_iinc X d10_barsState_228 rfl (by decide) rfl,
    s_goto X d10_barsState_231 rfl,
    s_iload X d10_barsState_234 rfl,
    s_if_eq X d10_barsState_236 rfl rfl,
    s_iload X d10_barsState_239 rfl,
    s_if_eq X d10_barsState_241 rfl rfl,
    s_aload_n X d10_barsState_244 rfl rfl,
    s_iload_n X d10_barsState_245 rfl rfl,
    s_iconst X d10_barsState_246 rfl rfl,
    s_callV ri_NW_ok X (na := 2) (ci := 10) rfl ⟨ri_cB X 2 mgw_1008 (List.mem_cons_of_mem _ mgw_12) (List.mem_cons_of_mem _ mgw_1005) (by decide +kernel) rfl rfl ⟨by decide, by decide⟩, X.2.2.2.2.1 _ (List.mem_cons_of_mem _ mgw_1007), X.2.2.2.2.1 _ (List.mem_cons_of_mem _ mgp_82)⟩ d10_barsState_247 rfl,
    s_if_lt X d10_barsState_250 rfl rfl,
    s_iload X d10_barsState_253 rfl,
    s_if_ne X d10_barsState_255 rfl rfl,
    s_iload_n X d10_barsState_258 rfl rfl,
    s_bipush X d10_barsState_259 rfl rfl,
    s_ior X d10_barsState_261 rfl,
    s_istore_n X d10_barsState_262 rfl (by decide) rfl,
    s_iload_n X d10_barsState_263 rfl rfl,
    s_iconst X d10_barsState_264 rfl rfl,
    s_icmp_eq X d10_barsState_265 rfl rfl,
    s_iload_n X d10_barsState_268 rfl rfl,
    s_bipush X d10_barsState_269 rfl rfl,
    s_icmp_eq X d10_barsState_271 rfl rfl,
    s_iload_n X d10_barsState_274 rfl rfl,
    s_bipush X d10_barsState_275 rfl rfl,
    s_icmp_eq X d10_barsState_277 rfl rfl,
    s_iload_n X d10_barsState_280 rfl rfl,
    s_iconst X d10_barsState_281 rfl rfl,
    s_icmp_ne X d10_barsState_282 rfl rfl,
    s_aload_n X d10_barsState_285 rfl rfl,
    s_get X (ci := 10) (f := 6) rfl (fun w h => List.mem_cons_of_mem _ (uC_10 w h)) (by decide) (List.mem_cons_of_mem _ mgw_820) d10_barsState_286 rfl,
    s_if_ne X d10_barsState_289 rfl rfl,
    s_iconst X d10_barsState_292 rfl rfl,
    s_goto X d10_barsState_293 rfl,
    s_iconst X d10_barsState_296 rfl rfl,
    s_istore X d10_barsState_297 (by decide) rfl,
    s_iload X d10_barsState_299 rfl,
    s_if_eq X d10_barsState_301 rfl rfl,
    s_iload X d10_barsState_304 rfl,
    s_iconst X d10_barsState_306 rfl rfl,
    s_icmp_gt X d10_barsState_307 rfl rfl,
    s_iload X d10_barsState_310 rfl,
    s_iconst X d10_barsState_312 rfl rfl,
    s_icmp_le X d10_barsState_313 rfl rfl,
    s_iload_n X d10_barsState_316 rfl rfl,
    s_bipush X d10_barsState_317 rfl rfl,
    s_ior X d10_barsState_319 rfl,
    s_istore_n X d10_barsState_320 rfl (by decide) rfl,
    s_iload_n X d10_barsState_321 rfl rfl,
    s_aload_n X d10_barsState_322 rfl rfl,
    s_get X (ci := 10) (f := 7) rfl (fun w h => List.mem_cons_of_mem _ (uC_10 w h)) (by decide) (List.mem_cons_of_mem _ mgw_821) d10_barsState_323 rfl,
    s_iconst X d10_barsState_326 rfl rfl,
    s_isub X d10_barsState_327 rfl,
    s_icmp_ne X d10_barsState_328 rfl rfl,
    s_iload_n X d10_barsState_331 rfl rfl,
    s_if_ne X d10_barsState_332 rfl rfl,
    s_aload_n X d10_barsState_335 rfl rfl,
    s_iload_n X d10_barsState_336 rfl rfl,
    s_aload_n X d10_barsState_337 rfl rfl,
    s_get X (ci := 10) (f := 31) rfl (fun w h => List.mem_cons_of_mem _ (uC_10 w h)) (by decide) (List.mem_cons_of_mem _ mgw_845) d10_barsState_338 rfl,
    s_iconst X d10_barsState_341 rfl rfl,
    s_iald X rfl d10_barsState_342 rfl,
    s_callV ri_NW_ok X (na := 2) (ci := 10) rfl ⟨ri_cB X 2 mgw_1000 (List.mem_cons_of_mem _ mgw_12) (List.mem_cons_of_mem _ mgw_997) (by decide +kernel) rfl rfl ⟨by decide, by decide⟩, X.2.2.2.2.1 _ (List.mem_cons_of_mem _ mgw_999), X.2.2.2.2.1 _ (List.mem_cons_of_mem _ mgp_80)⟩ d10_barsState_343 rfl,
    s_if_eq X d10_barsState_346 rfl rfl,
    s_iconst X d10_barsState_349 rfl rfl,
    s_goto X d10_barsState_350 rfl,
    s_iconst X d10_barsState_353 rfl rfl,
    s_istore X d10_barsState_354 (by decide) rfl,
    s_aload_n X d10_barsState_356 rfl rfl,
    s_get X (ci := 10) (f := 11) rfl (fun w h => List.mem_cons_of_mem _ (uC_10 w h)) (by decide) (List.mem_cons_of_mem _ mgw_825) d10_barsState_357 rfl,
    s_iload_n X d10_barsState_360 rfl rfl,
    s_zald X rfl d10_barsState_361 rfl,
    s_if_eq X d10_barsState_362 rfl rfl,
    s_iload_n X d10_barsState_365 rfl rfl,
    s_if_eq X d10_barsState_366 rfl rfl,
    s_iload_n X d10_barsState_369 rfl rfl,
    s_iconst X d10_barsState_370 rfl rfl,
    s_icmp_eq X d10_barsState_371 rfl rfl,
    s_iload_n X d10_barsState_374 rfl rfl,
    s_iconst X d10_barsState_375 rfl rfl,
    s_icmp_eq X d10_barsState_376 rfl rfl,
    s_iconst X d10_barsState_379 rfl rfl,
    s_goto X d10_barsState_380 rfl,
    s_iconst X d10_barsState_383 rfl rfl,
    s_istore X d10_barsState_384 (by decide) rfl,
    s_iload X d10_barsState_386 rfl,
    s_if_ne X d10_barsState_388 rfl rfl,
    s_iload X d10_barsState_391 rfl,
    s_if_eq X d10_barsState_393 rfl rfl,
    s_iload_n X d10_barsState_396 rfl rfl,
    s_bipush X d10_barsState_397 rfl rfl,
    s_ior X d10_barsState_399 rfl,
    s_goto X d10_barsState_400 rfl,
    s_iload_n X d10_barsState_403 rfl rfl,
    s_iret X hret hlocks d10_barsState_404, trivial⟩
theorem d10_putState_0 : decode c10_putState 0 = .ok (.iload_n 2, 1) := by decide +kernel
theorem d10_putState_1 : decode c10_putState 1 = .ok (.istore 4, 2) := by decide +kernel
theorem d10_putState_3 : decode c10_putState 3 = .ok (.iload 4, 2) := by decide +kernel
theorem d10_putState_5 : decode c10_putState 5 = .ok (.ifCond .le 112, 3) := by decide +kernel
theorem d10_putState_8 : decode c10_putState 8 = .ok (.aload_n 0, 1) := by decide +kernel
theorem d10_putState_9 : decode c10_putState 9 = .ok (.sipush 400, 3) := by decide +kernel
theorem d10_putState_12 : decode c10_putState 12 = .ok (.iload_n 1, 1) := by decide +kernel
theorem d10_putState_13 : decode c10_putState 13 = .ok (.imul, 1) := by decide +kernel
theorem d10_putState_14 : decode c10_putState 14 = .ok (.iload 4, 2) := by decide +kernel
theorem d10_putState_16 : decode c10_putState 16 = .ok (.iadd, 1) := by decide +kernel
theorem d10_putState_17 : decode c10_putState 17 = .ok (.iconst 1, 1) := by decide +kernel
theorem d10_putState_18 : decode c10_putState 18 = .ok (.isub, 1) := by decide +kernel
theorem d10_putState_19 : decode c10_putState 19 = .ok (.iload_n 3, 1) := by decide +kernel
theorem d10_putState_20 : decode c10_putState 20 = .ok (.invokevirtual 169, 3) := by decide +kernel
theorem d10_putState_23 : decode c10_putState 23 = .ok (.ifCond .le 94, 3) := by decide +kernel
theorem d10_putState_26 : decode c10_putState 26 = .ok (.sipush 400, 3) := by decide +kernel
theorem d10_putState_29 : decode c10_putState 29 = .ok (.iload_n 1, 1) := by decide +kernel
theorem d10_putState_30 : decode c10_putState 30 = .ok (.imul, 1) := by decide +kernel
theorem d10_putState_31 : decode c10_putState 31 = .ok (.iload 4, 2) := by decide +kernel
theorem d10_putState_33 : decode c10_putState 33 = .ok (.iadd, 1) := by decide +kernel
theorem d10_putState_34 : decode c10_putState 34 = .ok (.iconst 1, 1) := by decide +kernel
theorem d10_putState_35 : decode c10_putState 35 = .ok (.isub, 1) := by decide +kernel
theorem d10_putState_36 : decode c10_putState 36 = .ok (.istore 5, 2) := by decide +kernel
theorem d10_putState_38 : decode c10_putState 38 = .ok (.iconst 0, 1) := by decide +kernel
theorem d10_putState_39 : decode c10_putState 39 = .ok (.istore 6, 2) := by decide +kernel
theorem d10_putState_41 : decode c10_putState 41 = .ok (.iload 6, 2) := by decide +kernel
theorem d10_putState_43 : decode c10_putState 43 = .ok (.iconst 4, 1) := by decide +kernel
theorem d10_putState_44 : decode c10_putState 44 = .ok (.if_icmp .ge 35, 3) := by decide +kernel
theorem d10_putState_47 : decode c10_putState 47 = .ok (.aload_n 0, 1) := by decide +kernel
theorem d10_putState_48 : decode c10_putState 48 = .ok (.getfield 54, 3) := by decide +kernel
theorem d10_putState_51 : decode c10_putState 51 = .ok (.iconst 4, 1) := by decide +kernel
theorem d10_putState_52 : decode c10_putState 52 = .ok (.iload 5, 2) := by decide +kernel
theorem d10_putState_54 : decode c10_putState 54 = .ok (.iconst 1, 1) := by decide +kernel
theorem d10_putState_55 : decode c10_putState 55 = .ok (.iadd, 1) := by decide +kernel
theorem d10_putState_56 : decode c10_putState 56 = .ok (.imul, 1) := by decide +kernel
theorem d10_putState_57 : decode c10_putState 57 = .ok (.iload 6, 2) := by decide +kernel
theorem d10_putState_59 : decode c10_putState 59 = .ok (.iadd, 1) := by decide +kernel
theorem d10_putState_60 : decode c10_putState 60 = .ok (.aload_n 0, 1) := by decide +kernel
theorem d10_putState_61 : decode c10_putState 61 = .ok (.getfield 54, 3) := by decide +kernel
theorem d10_putState_64 : decode c10_putState 64 = .ok (.iconst 4, 1) := by decide +kernel
theorem d10_putState_65 : decode c10_putState 65 = .ok (.iload 5, 2) := by decide +kernel
theorem d10_putState_67 : decode c10_putState 67 = .ok (.imul, 1) := by decide +kernel
theorem d10_putState_68 : decode c10_putState 68 = .ok (.iload 6, 2) := by decide +kernel
theorem d10_putState_70 : decode c10_putState 70 = .ok (.iadd, 1) := by decide +kernel
theorem d10_putState_71 : decode c10_putState 71 = .ok (.iaload, 1) := by decide +kernel
theorem d10_putState_72 : decode c10_putState 72 = .ok (.iastore, 1) := by decide +kernel
theorem d10_putState_73 : decode c10_putState 73 = .ok (.iinc 6 1, 3) := by decide +kernel
theorem d10_putState_76 : decode c10_putState 76 = .ok (.goto (-35), 3) := by decide +kernel
theorem d10_putState_79 : decode c10_putState 79 = .ok (.aload_n 0, 1) := by decide +kernel
theorem d10_putState_80 : decode c10_putState 80 = .ok (.getfield 57, 3) := by decide +kernel
theorem d10_putState_83 : decode c10_putState 83 = .ok (.iload 5, 2) := by decide +kernel
theorem d10_putState_85 : decode c10_putState 85 = .ok (.iconst 1, 1) := by decide +kernel
theorem d10_putState_86 : decode c10_putState 86 = .ok (.iadd, 1) := by decide +kernel
theorem d10_putState_87 : decode c10_putState 87 = .ok (.aload_n 0, 1) := by decide +kernel
theorem d10_putState_88 : decode c10_putState 88 = .ok (.getfield 57, 3) := by decide +kernel
theorem d10_putState_91 : decode c10_putState 91 = .ok (.iload 5, 2) := by decide +kernel
theorem d10_putState_93 : decode c10_putState 93 = .ok (.iaload, 1) := by decide +kernel
theorem d10_putState_94 : decode c10_putState 94 = .ok (.iastore, 1) := by decide +kernel
theorem d10_putState_95 : decode c10_putState 95 = .ok (.aload_n 0, 1) := by decide +kernel
theorem d10_putState_96 : decode c10_putState 96 = .ok (.getfield 60, 3) := by decide +kernel
theorem d10_putState_99 : decode c10_putState 99 = .ok (.iload 5, 2) := by decide +kernel
theorem d10_putState_101 : decode c10_putState 101 = .ok (.iconst 1, 1) := by decide +kernel
theorem d10_putState_102 : decode c10_putState 102 = .ok (.iadd, 1) := by decide +kernel
theorem d10_putState_103 : decode c10_putState 103 = .ok (.aload_n 0, 1) := by decide +kernel
theorem d10_putState_104 : decode c10_putState 104 = .ok (.getfield 60, 3) := by decide +kernel
theorem d10_putState_107 : decode c10_putState 107 = .ok (.iload 5, 2) := by decide +kernel
theorem d10_putState_109 : decode c10_putState 109 = .ok (.iaload, 1) := by decide +kernel
theorem d10_putState_110 : decode c10_putState 110 = .ok (.iastore, 1) := by decide +kernel
theorem d10_putState_111 : decode c10_putState 111 = .ok (.iinc 4 (-1), 3) := by decide +kernel
theorem d10_putState_114 : decode c10_putState 114 = .ok (.goto (-111), 3) := by decide +kernel
theorem d10_putState_117 : decode c10_putState 117 = .ok (.sipush 400, 3) := by decide +kernel
theorem d10_putState_120 : decode c10_putState 120 = .ok (.iload_n 1, 1) := by decide +kernel
theorem d10_putState_121 : decode c10_putState 121 = .ok (.imul, 1) := by decide +kernel
theorem d10_putState_122 : decode c10_putState 122 = .ok (.iload 4, 2) := by decide +kernel
theorem d10_putState_124 : decode c10_putState 124 = .ok (.iadd, 1) := by decide +kernel
theorem d10_putState_125 : decode c10_putState 125 = .ok (.istore 5, 2) := by decide +kernel
theorem d10_putState_127 : decode c10_putState 127 = .ok (.iconst 0, 1) := by decide +kernel
theorem d10_putState_128 : decode c10_putState 128 = .ok (.istore 6, 2) := by decide +kernel
theorem d10_putState_130 : decode c10_putState 130 = .ok (.iload 6, 2) := by decide +kernel
theorem d10_putState_132 : decode c10_putState 132 = .ok (.iconst 4, 1) := by decide +kernel
theorem d10_putState_133 : decode c10_putState 133 = .ok (.if_icmp .ge 28, 3) := by decide +kernel
theorem d10_putState_136 : decode c10_putState 136 = .ok (.aload_n 0, 1) := by decide +kernel
theorem d10_putState_137 : decode c10_putState 137 = .ok (.getfield 54, 3) := by decide +kernel
theorem d10_putState_140 : decode c10_putState 140 = .ok (.iconst 4, 1) := by decide +kernel
theorem d10_putState_141 : decode c10_putState 141 = .ok (.iload 5, 2) := by decide +kernel
theorem d10_putState_143 : decode c10_putState 143 = .ok (.imul, 1) := by decide +kernel
theorem d10_putState_144 : decode c10_putState 144 = .ok (.iload 6, 2) := by decide +kernel
theorem d10_putState_146 : decode c10_putState 146 = .ok (.iadd, 1) := by decide +kernel
theorem d10_putState_147 : decode c10_putState 147 = .ok (.aload_n 0, 1) := by decide +kernel
theorem d10_putState_148 : decode c10_putState 148 = .ok (.getfield 93, 3) := by decide +kernel
theorem d10_putState_151 : decode c10_putState 151 = .ok (.iload 6, 2) := by decide +kernel
theorem d10_putState_153 : decode c10_putState 153 = .ok (.iaload, 1) := by decide +kernel
theorem d10_putState_154 : decode c10_putState 154 = .ok (.iastore, 1) := by decide +kernel
theorem d10_putState_155 : decode c10_putState 155 = .ok (.iinc 6 1, 3) := by decide +kernel
theorem d10_putState_158 : decode c10_putState 158 = .ok (.goto (-28), 3) := by decide +kernel
theorem d10_putState_161 : decode c10_putState 161 = .ok (.aload_n 0, 1) := by decide +kernel
theorem d10_putState_162 : decode c10_putState 162 = .ok (.getfield 57, 3) := by decide +kernel
theorem d10_putState_165 : decode c10_putState 165 = .ok (.iload 5, 2) := by decide +kernel
theorem d10_putState_167 : decode c10_putState 167 = .ok (.iload_n 3, 1) := by decide +kernel
theorem d10_putState_168 : decode c10_putState 168 = .ok (.iastore, 1) := by decide +kernel
theorem d10_putState_169 : decode c10_putState 169 = .ok (.aload_n 0, 1) := by decide +kernel
theorem d10_putState_170 : decode c10_putState 170 = .ok (.getfield 60, 3) := by decide +kernel
theorem d10_putState_173 : decode c10_putState 173 = .ok (.iload 5, 2) := by decide +kernel
theorem d10_putState_175 : decode c10_putState 175 = .ok (.aload_n 0, 1) := by decide +kernel
theorem d10_putState_176 : decode c10_putState 176 = .ok (.iload_n 3, 1) := by decide +kernel
theorem d10_putState_177 : decode c10_putState 177 = .ok (.invokevirtual 172, 3) := by decide +kernel
theorem d10_putState_180 : decode c10_putState 180 = .ok (.iastore, 1) := by decide +kernel
theorem d10_putState_181 : decode c10_putState 181 = .ok (.return_, 1) := by decide +kernel
def t10_putState (l : Launch) (Po : ri_O) : List ri_S := [i_il 1 2,
  i_is 2 4,
  i_il 3 4,
  i_if 4 70 (fun x => x ≤ 0),
  i_al 5 0,
  i_con 6 400,
  i_il 7 1,
  i_bin 8 (fun x y => x * y),
  i_il 9 4,
  i_bin 10 (fun x y => x + y),
  i_con 11 1,
  i_bin 12 (fun x y => x - y),
  i_il 13 3,
  i_callV 14 3 10 (ri_Ev l y10_orderTo w10_orderTo r10_orderTo 0 0) 0 0 0 0,
  i_if 15 70 (fun x => x ≤ 0),
  i_con 16 400,
  i_il 17 1,
  i_bin 18 (fun x y => x * y),
  i_il 19 4,
  i_bin 20 (fun x y => x + y),
  i_con 21 1,
  i_bin 22 (fun x y => x - y),
  i_is 23 5,
  i_con 24 0,
  i_is 25 6,
  i_il 26 6,
  i_con 27 4,
  i_icmp 28 48 (fun x y => y ≤ x),
  i_al 29 0,
  i_get 30 10 16,
  i_con 31 4,
  i_il 32 5,
  i_con 33 1,
  i_bin 34 (fun x y => x + y),
  i_bin 35 (fun x y => x * y),
  i_il 36 6,
  i_bin 37 (fun x y => x + y),
  i_al 38 0,
  i_get 39 10 16,
  i_con 40 4,
  i_il 41 5,
  i_bin 42 (fun x y => x * y),
  i_il 43 6,
  i_bin 44 (fun x y => x + y),
  i_ald 45 0,
  i_ast 46 0 (fun x => x),
  i_inc 47 6 1,
  i_goto 25,
  i_al 49 0,
  i_get 50 10 17,
  i_il 51 5,
  i_con 52 1,
  i_bin 53 (fun x y => x + y),
  i_al 54 0,
  i_get 55 10 17,
  i_il 56 5,
  i_ald 57 0,
  i_ast 58 0 (fun x => x),
  i_al 59 0,
  i_get 60 10 18,
  i_il 61 5,
  i_con 62 1,
  i_bin 63 (fun x y => x + y),
  i_al 64 0,
  i_get 65 10 18,
  i_il 66 5,
  i_ald 67 0,
  i_ast 68 0 (fun x => x),
  i_inc 69 4 (-1),
  i_goto 2,
  i_con 71 400,
  i_il 72 1,
  i_bin 73 (fun x y => x * y),
  i_il 74 4,
  i_bin 75 (fun x y => x + y),
  i_is 76 5,
  i_con 77 0,
  i_is 78 6,
  i_il 79 6,
  i_con 80 4,
  i_icmp 81 95 (fun x y => y ≤ x),
  i_al 82 0,
  i_get 83 10 16,
  i_con 84 4,
  i_il 85 5,
  i_bin 86 (fun x y => x * y),
  i_il 87 6,
  i_bin 88 (fun x y => x + y),
  i_al 89 0,
  i_get 90 10 31,
  i_il 91 6,
  i_ald 92 0,
  i_ast 93 0 (fun x => x),
  i_inc 94 6 1,
  i_goto 78,
  i_al 96 0,
  i_get 97 10 17,
  i_il 98 5,
  i_il 99 3,
  i_ast 100 0 (fun x => x),
  i_al 101 0,
  i_get 102 10 18,
  i_il 103 5,
  i_al 104 0,
  i_il 105 3,
  i_callV 106 2 10 (ri_Ev l y10_costOfState w10_costOfState r10_costOfState 0 0) 0 0 0 0,
  i_ast 107 0 (fun x => x),
  i_vret Po 0 0]
set_option maxRecDepth 20000 in
set_option maxHeartbeats 4000000 in
theorem z10_putState (l : Launch) (Po : ri_O) (p : Program) (e : Env) (s : State) (m : MethodId) (args : Array Value) (below : List Frame) (meth : Method) (c : Code) (D : va_G) (ka : Nat → ClassId) (sa : Nat → Nat) (base : Nat) (X : ri_X p s m args c c10_putState 7 w10_putState "ChoraleSearchModel" D ka sa base) (hret : meth.sig.returnType = none) (hlocks : meth.locks = false) (hname : meth.name = "putState") : ri_clo (ri_W p l e r10_putState s m args below meth c D ka sa base 7 (MQ below (ri_Qc D ka sa base Po) args s 0 0 (fun q => base ≤ q)) p10_putState) (t10_putState l Po) := by
  refine ri_clo_of ?_
  unfold t10_putState
  exact ⟨s_iload_n X d10_putState_0 rfl rfl,
    s_istore X d10_putState_1 (by decide) rfl,
    s_iload X d10_putState_3 rfl,
    s_if_le X d10_putState_5 rfl rfl,
    s_aload_n X d10_putState_8 rfl rfl,
    s_sipush X d10_putState_9 rfl rfl,
    s_iload_n X d10_putState_12 rfl rfl,
    s_imul X d10_putState_13 rfl,
    s_iload X d10_putState_14 rfl,
    s_iadd X d10_putState_16 rfl,
    s_iconst X d10_putState_17 rfl rfl,
    s_isub X d10_putState_18 rfl,
    s_iload_n X d10_putState_19 rfl rfl,
    s_callV ri_NW_ok X (na := 2) (ci := 10) rfl ⟨ri_cB X 2 mgw_1020 (List.mem_cons_of_mem _ mgw_12) (List.mem_cons_of_mem _ mgw_1017) (by decide +kernel) rfl rfl ⟨by decide, by decide⟩, X.2.2.2.2.1 _ (List.mem_cons_of_mem _ mgw_1019), X.2.2.2.2.1 _ (List.mem_cons_of_mem _ mgp_85)⟩ d10_putState_20 rfl,
    s_if_le X d10_putState_23 rfl rfl,
    s_sipush X d10_putState_26 rfl rfl,
    s_iload_n X d10_putState_29 rfl rfl,
    s_imul X d10_putState_30 rfl,
    s_iload X d10_putState_31 rfl,
    s_iadd X d10_putState_33 rfl,
    s_iconst X d10_putState_34 rfl rfl,
    s_isub X d10_putState_35 rfl,
    s_istore X d10_putState_36 (by decide) rfl,
    s_iconst X d10_putState_38 rfl rfl,
    s_istore X d10_putState_39 (by decide) rfl,
    s_iload X d10_putState_41 rfl,
    s_iconst X d10_putState_43 rfl rfl,
    s_icmp_ge X d10_putState_44 rfl rfl,
    s_aload_n X d10_putState_47 rfl rfl,
    s_get X (ci := 10) (f := 16) rfl (fun w h => List.mem_cons_of_mem _ (uC_10 w h)) (by decide) (List.mem_cons_of_mem _ mgw_830) d10_putState_48 rfl,
    s_iconst X d10_putState_51 rfl rfl,
    s_iload X d10_putState_52 rfl,
    s_iconst X d10_putState_54 rfl rfl,
    s_iadd X d10_putState_55 rfl,
    s_imul X d10_putState_56 rfl,
    s_iload X d10_putState_57 rfl,
    s_iadd X d10_putState_59 rfl,
    s_aload_n X d10_putState_60 rfl rfl,
    s_get X (ci := 10) (f := 16) rfl (fun w h => List.mem_cons_of_mem _ (uC_10 w h)) (by decide) (List.mem_cons_of_mem _ mgw_830) d10_putState_61 rfl,
    s_iconst X d10_putState_64 rfl rfl,
    s_iload X d10_putState_65 rfl,
    s_imul X d10_putState_67 rfl,
    s_iload X d10_putState_68 rfl,
    s_iadd X d10_putState_70 rfl,
    s_iald X rfl d10_putState_71 rfl,
    s_iast X rfl d10_putState_72 rfl,
    s_iinc X d10_putState_73 rfl (by decide) rfl,
    s_goto X d10_putState_76 rfl,
    s_aload_n X d10_putState_79 rfl rfl,
    s_get X (ci := 10) (f := 17) rfl (fun w h => List.mem_cons_of_mem _ (uC_10 w h)) (by decide) (List.mem_cons_of_mem _ mgw_831) d10_putState_80 rfl,
    s_iload X d10_putState_83 rfl,
    s_iconst X d10_putState_85 rfl rfl,
    s_iadd X d10_putState_86 rfl,
    s_aload_n X d10_putState_87 rfl rfl,
    s_get X (ci := 10) (f := 17) rfl (fun w h => List.mem_cons_of_mem _ (uC_10 w h)) (by decide) (List.mem_cons_of_mem _ mgw_831) d10_putState_88 rfl,
    s_iload X d10_putState_91 rfl,
    s_iald X rfl d10_putState_93 rfl,
    s_iast X rfl d10_putState_94 rfl,
    s_aload_n X d10_putState_95 rfl rfl,
    s_get X (ci := 10) (f := 18) rfl (fun w h => List.mem_cons_of_mem _ (uC_10 w h)) (by decide) (List.mem_cons_of_mem _ mgw_832) d10_putState_96 rfl,
    s_iload X d10_putState_99 rfl,
    s_iconst X d10_putState_101 rfl rfl,
    s_iadd X d10_putState_102 rfl,
    s_aload_n X d10_putState_103 rfl rfl,
    s_get X (ci := 10) (f := 18) rfl (fun w h => List.mem_cons_of_mem _ (uC_10 w h)) (by decide) (List.mem_cons_of_mem _ mgw_832) d10_putState_104 rfl,
    s_iload X d10_putState_107 rfl,
    s_iald X rfl d10_putState_109 rfl,
    s_iast X rfl d10_putState_110 rfl,
    s_iinc X d10_putState_111 rfl (by decide) rfl,
    s_goto X d10_putState_114 rfl,
    s_sipush X d10_putState_117 rfl rfl,
    s_iload_n X d10_putState_120 rfl rfl,
    s_imul X d10_putState_121 rfl,
    s_iload X d10_putState_122 rfl,
    s_iadd X d10_putState_124 rfl,
    s_istore X d10_putState_125 (by decide) rfl,
    s_iconst X d10_putState_127 rfl rfl,
    s_istore X d10_putState_128 (by decide) rfl,
    s_iload X d10_putState_130 rfl,
    s_iconst X d10_putState_132 rfl rfl,
    s_icmp_ge X d10_putState_133 rfl rfl,
    s_aload_n X d10_putState_136 rfl rfl,
    s_get X (ci := 10) (f := 16) rfl (fun w h => List.mem_cons_of_mem _ (uC_10 w h)) (by decide) (List.mem_cons_of_mem _ mgw_830) d10_putState_137 rfl,
    s_iconst X d10_putState_140 rfl rfl,
    s_iload X d10_putState_141 rfl,
    s_imul X d10_putState_143 rfl,
    s_iload X d10_putState_144 rfl,
    s_iadd X d10_putState_146 rfl,
    s_aload_n X d10_putState_147 rfl rfl,
    s_get X (ci := 10) (f := 31) rfl (fun w h => List.mem_cons_of_mem _ (uC_10 w h)) (by decide) (List.mem_cons_of_mem _ mgw_845) d10_putState_148 rfl,
    s_iload X d10_putState_151 rfl,
    s_iald X rfl d10_putState_153 rfl,
    s_iast X rfl d10_putState_154 rfl,
    s_iinc X d10_putState_155 rfl (by decide) rfl,
    s_goto X d10_putState_158 rfl,
    s_aload_n X d10_putState_161 rfl rfl,
    s_get X (ci := 10) (f := 17) rfl (fun w h => List.mem_cons_of_mem _ (uC_10 w h)) (by decide) (List.mem_cons_of_mem _ mgw_831) d10_putState_162 rfl,
    s_iload X d10_putState_165 rfl,
    s_iload_n X d10_putState_167 rfl rfl,
    s_iast X rfl d10_putState_168 rfl,
    s_aload_n X d10_putState_169 rfl rfl,
    s_get X (ci := 10) (f := 18) rfl (fun w h => List.mem_cons_of_mem _ (uC_10 w h)) (by decide) (List.mem_cons_of_mem _ mgw_832) d10_putState_170 rfl,
    s_iload X d10_putState_173 rfl,
    s_aload_n X d10_putState_175 rfl rfl,
    s_iload_n X d10_putState_176 rfl rfl,
    s_callV ri_NW_ok X (na := 1) (ci := 10) rfl ⟨ri_cB X 1 mgw_1024 (List.mem_cons_of_mem _ mgw_12) (List.mem_cons_of_mem _ mgw_1021) (by decide +kernel) rfl rfl ⟨by decide, by decide⟩, X.2.2.2.2.1 _ (List.mem_cons_of_mem _ mgw_1023), X.2.2.2.2.1 _ (List.mem_cons_of_mem _ mgp_86)⟩ d10_putState_177 rfl,
    s_iast X rfl d10_putState_180 rfl,
    s_vret X hret hlocks d10_putState_181, trivial⟩
theorem d10_orderTo_0 : decode c10_orderTo 0 = .ok (.iconst 0, 1) := by decide +kernel
theorem d10_orderTo_1 : decode c10_orderTo 1 = .ok (.istore_n 3, 1) := by decide +kernel
theorem d10_orderTo_2 : decode c10_orderTo 2 = .ok (.iload_n 3, 1) := by decide +kernel
theorem d10_orderTo_3 : decode c10_orderTo 3 = .ok (.iconst 4, 1) := by decide +kernel
theorem d10_orderTo_4 : decode c10_orderTo 4 = .ok (.if_icmp .ge 53, 3) := by decide +kernel
theorem d10_orderTo_7 : decode c10_orderTo 7 = .ok (.aload_n 0, 1) := by decide +kernel
theorem d10_orderTo_8 : decode c10_orderTo 8 = .ok (.getfield 54, 3) := by decide +kernel
theorem d10_orderTo_11 : decode c10_orderTo 11 = .ok (.iconst 4, 1) := by decide +kernel
theorem d10_orderTo_12 : decode c10_orderTo 12 = .ok (.iload_n 1, 1) := by decide +kernel
theorem d10_orderTo_13 : decode c10_orderTo 13 = .ok (.imul, 1) := by decide +kernel
theorem d10_orderTo_14 : decode c10_orderTo 14 = .ok (.iload_n 3, 1) := by decide +kernel
theorem d10_orderTo_15 : decode c10_orderTo 15 = .ok (.iadd, 1) := by decide +kernel
theorem d10_orderTo_16 : decode c10_orderTo 16 = .ok (.iaload, 1) := by decide +kernel
theorem d10_orderTo_17 : decode c10_orderTo 17 = .ok (.aload_n 0, 1) := by decide +kernel
theorem d10_orderTo_18 : decode c10_orderTo 18 = .ok (.getfield 93, 3) := by decide +kernel
theorem d10_orderTo_21 : decode c10_orderTo 21 = .ok (.iload_n 3, 1) := by decide +kernel
theorem d10_orderTo_22 : decode c10_orderTo 22 = .ok (.iaload, 1) := by decide +kernel
theorem d10_orderTo_23 : decode c10_orderTo 23 = .ok (.if_icmp .eq 28, 3) := by decide +kernel
theorem d10_orderTo_26 : decode c10_orderTo 26 = .ok (.aload_n 0, 1) := by decide +kernel
theorem d10_orderTo_27 : decode c10_orderTo 27 = .ok (.getfield 54, 3) := by decide +kernel
theorem d10_orderTo_30 : decode c10_orderTo 30 = .ok (.iconst 4, 1) := by decide +kernel
theorem d10_orderTo_31 : decode c10_orderTo 31 = .ok (.iload_n 1, 1) := by decide +kernel
theorem d10_orderTo_32 : decode c10_orderTo 32 = .ok (.imul, 1) := by decide +kernel
theorem d10_orderTo_33 : decode c10_orderTo 33 = .ok (.iload_n 3, 1) := by decide +kernel
theorem d10_orderTo_34 : decode c10_orderTo 34 = .ok (.iadd, 1) := by decide +kernel
theorem d10_orderTo_35 : decode c10_orderTo 35 = .ok (.iaload, 1) := by decide +kernel
theorem d10_orderTo_36 : decode c10_orderTo 36 = .ok (.aload_n 0, 1) := by decide +kernel
theorem d10_orderTo_37 : decode c10_orderTo 37 = .ok (.getfield 93, 3) := by decide +kernel
theorem d10_orderTo_40 : decode c10_orderTo 40 = .ok (.iload_n 3, 1) := by decide +kernel
theorem d10_orderTo_41 : decode c10_orderTo 41 = .ok (.iaload, 1) := by decide +kernel
theorem d10_orderTo_42 : decode c10_orderTo 42 = .ok (.if_icmp .ge 7, 3) := by decide +kernel
theorem d10_orderTo_45 : decode c10_orderTo 45 = .ok (.iconst (-1), 1) := by decide +kernel
theorem d10_orderTo_46 : decode c10_orderTo 46 = .ok (.goto 4, 3) := by decide +kernel
theorem d10_orderTo_49 : decode c10_orderTo 49 = .ok (.iconst 1, 1) := by decide +kernel
theorem d10_orderTo_50 : decode c10_orderTo 50 = .ok (.ireturn, 1) := by decide +kernel
theorem d10_orderTo_51 : decode c10_orderTo 51 = .ok (.iinc 3 1, 3) := by decide +kernel
theorem d10_orderTo_54 : decode c10_orderTo 54 = .ok (.goto (-52), 3) := by decide +kernel
theorem d10_orderTo_57 : decode c10_orderTo 57 = .ok (.aload_n 0, 1) := by decide +kernel
theorem d10_orderTo_58 : decode c10_orderTo 58 = .ok (.getfield 57, 3) := by decide +kernel
theorem d10_orderTo_61 : decode c10_orderTo 61 = .ok (.iload_n 1, 1) := by decide +kernel
theorem d10_orderTo_62 : decode c10_orderTo 62 = .ok (.iaload, 1) := by decide +kernel
theorem d10_orderTo_63 : decode c10_orderTo 63 = .ok (.iload_n 2, 1) := by decide +kernel
theorem d10_orderTo_64 : decode c10_orderTo 64 = .ok (.if_icmp .ge 7, 3) := by decide +kernel
theorem d10_orderTo_67 : decode c10_orderTo 67 = .ok (.iconst (-1), 1) := by decide +kernel
theorem d10_orderTo_68 : decode c10_orderTo 68 = .ok (.goto 4, 3) := by decide +kernel
theorem d10_orderTo_71 : decode c10_orderTo 71 = .ok (.iconst 1, 1) := by decide +kernel
theorem d10_orderTo_72 : decode c10_orderTo 72 = .ok (.ireturn, 1) := by decide +kernel
def t10_orderTo (l : Launch) (Po : ri_O) : List ri_S := [i_con 1 0,
  i_is 2 3,
  i_il 3 3,
  i_con 4 4,
  i_icmp 5 37 (fun x y => y ≤ x),
  i_al 6 0,
  i_get 7 10 16,
  i_con 8 4,
  i_il 9 1,
  i_bin 10 (fun x y => x * y),
  i_il 11 3,
  i_bin 12 (fun x y => x + y),
  i_ald 13 0,
  i_al 14 0,
  i_get 15 10 31,
  i_il 16 3,
  i_ald 17 0,
  i_icmp 18 35 (fun x y => x = y),
  i_al 19 0,
  i_get 20 10 16,
  i_con 21 4,
  i_il 22 1,
  i_bin 23 (fun x y => x * y),
  i_il 24 3,
  i_bin 25 (fun x y => x + y),
  i_ald 26 0,
  i_al 27 0,
  i_get 28 10 31,
  i_il 29 3,
  i_ald 30 0,
  i_icmp 31 33 (fun x y => y ≤ x),
  i_con 32 (-1),
  i_goto 34,
  i_con 34 1,
  i_ret Po 0 0,
  i_inc 36 3 1,
  i_goto 2,
  i_al 38 0,
  i_get 39 10 17,
  i_il 40 1,
  i_ald 41 0,
  i_il 42 2,
  i_icmp 43 45 (fun x y => y ≤ x),
  i_con 44 (-1),
  i_goto 46,
  i_con 46 1,
  i_ret Po 0 0]
set_option maxRecDepth 20000 in
set_option maxHeartbeats 4000000 in
theorem z10_orderTo (l : Launch) (Po : ri_O) (p : Program) (e : Env) (s : State) (m : MethodId) (args : Array Value) (below : List Frame) (meth : Method) (c : Code) (D : va_G) (ka : Nat → ClassId) (sa : Nat → Nat) (base : Nat) (X : ri_X p s m args c c10_orderTo 4 w10_orderTo "ChoraleSearchModel" D ka sa base) (hret : meth.sig.returnType = (some .int)) (hlocks : meth.locks = false) (hname : meth.name = "orderTo") : ri_clo (ri_W p l e r10_orderTo s m args below meth c D ka sa base 4 (MQ below (ri_Qc D ka sa base Po) args s 0 0 (fun q => base ≤ q)) p10_orderTo) (t10_orderTo l Po) := by
  refine ri_clo_of ?_
  unfold t10_orderTo
  exact ⟨s_iconst X d10_orderTo_0 rfl rfl,
    s_istore_n X d10_orderTo_1 rfl (by decide) rfl,
    s_iload_n X d10_orderTo_2 rfl rfl,
    s_iconst X d10_orderTo_3 rfl rfl,
    s_icmp_ge X d10_orderTo_4 rfl rfl,
    s_aload_n X d10_orderTo_7 rfl rfl,
    s_get X (ci := 10) (f := 16) rfl (fun w h => List.mem_cons_of_mem _ (uC_10 w h)) (by decide) (List.mem_cons_of_mem _ mgw_830) d10_orderTo_8 rfl,
    s_iconst X d10_orderTo_11 rfl rfl,
    s_iload_n X d10_orderTo_12 rfl rfl,
    s_imul X d10_orderTo_13 rfl,
    s_iload_n X d10_orderTo_14 rfl rfl,
    s_iadd X d10_orderTo_15 rfl,
    s_iald X rfl d10_orderTo_16 rfl,
    s_aload_n X d10_orderTo_17 rfl rfl,
    s_get X (ci := 10) (f := 31) rfl (fun w h => List.mem_cons_of_mem _ (uC_10 w h)) (by decide) (List.mem_cons_of_mem _ mgw_845) d10_orderTo_18 rfl,
    s_iload_n X d10_orderTo_21 rfl rfl,
    s_iald X rfl d10_orderTo_22 rfl,
    s_icmp_eq X d10_orderTo_23 rfl rfl,
    s_aload_n X d10_orderTo_26 rfl rfl,
    s_get X (ci := 10) (f := 16) rfl (fun w h => List.mem_cons_of_mem _ (uC_10 w h)) (by decide) (List.mem_cons_of_mem _ mgw_830) d10_orderTo_27 rfl,
    s_iconst X d10_orderTo_30 rfl rfl,
    s_iload_n X d10_orderTo_31 rfl rfl,
    s_imul X d10_orderTo_32 rfl,
    s_iload_n X d10_orderTo_33 rfl rfl,
    s_iadd X d10_orderTo_34 rfl,
    s_iald X rfl d10_orderTo_35 rfl,
    s_aload_n X d10_orderTo_36 rfl rfl,
    s_get X (ci := 10) (f := 31) rfl (fun w h => List.mem_cons_of_mem _ (uC_10 w h)) (by decide) (List.mem_cons_of_mem _ mgw_845) d10_orderTo_37 rfl,
    s_iload_n X d10_orderTo_40 rfl rfl,
    s_iald X rfl d10_orderTo_41 rfl,
    s_icmp_ge X d10_orderTo_42 rfl rfl,
    s_iconst X d10_orderTo_45 rfl rfl,
    s_goto X d10_orderTo_46 rfl,
    s_iconst X d10_orderTo_49 rfl rfl,
    s_iret X hret hlocks d10_orderTo_50,
    s_iinc X d10_orderTo_51 rfl (by decide) rfl,
    s_goto X d10_orderTo_54 rfl,
    s_aload_n X d10_orderTo_57 rfl rfl,
    s_get X (ci := 10) (f := 17) rfl (fun w h => List.mem_cons_of_mem _ (uC_10 w h)) (by decide) (List.mem_cons_of_mem _ mgw_831) d10_orderTo_58 rfl,
    s_iload_n X d10_orderTo_61 rfl rfl,
    s_iald X rfl d10_orderTo_62 rfl,
    s_iload_n X d10_orderTo_63 rfl rfl,
    s_icmp_ge X d10_orderTo_64 rfl rfl,
    s_iconst X d10_orderTo_67 rfl rfl,
    s_goto X d10_orderTo_68 rfl,
    s_iconst X d10_orderTo_71 rfl rfl,
    s_iret X hret hlocks d10_orderTo_72, trivial⟩
theorem d10_costOfState_0 : decode c10_costOfState 0 = .ok (.iconst 0, 1) := by decide +kernel
theorem d10_costOfState_1 : decode c10_costOfState 1 = .ok (.istore_n 2, 1) := by decide +kernel
theorem d10_costOfState_2 : decode c10_costOfState 2 = .ok (.iconst 0, 1) := by decide +kernel
theorem d10_costOfState_3 : decode c10_costOfState 3 = .ok (.istore_n 3, 1) := by decide +kernel
theorem d10_costOfState_4 : decode c10_costOfState 4 = .ok (.iconst 0, 1) := by decide +kernel
theorem d10_costOfState_5 : decode c10_costOfState 5 = .ok (.istore 4, 2) := by decide +kernel
theorem d10_costOfState_7 : decode c10_costOfState 7 = .ok (.iconst 0, 1) := by decide +kernel
theorem d10_costOfState_8 : decode c10_costOfState 8 = .ok (.istore 5, 2) := by decide +kernel
theorem d10_costOfState_10 : decode c10_costOfState 10 = .ok (.iload 5, 2) := by decide +kernel
theorem d10_costOfState_12 : decode c10_costOfState 12 = .ok (.iconst 4, 1) := by decide +kernel
theorem d10_costOfState_13 : decode c10_costOfState 13 = .ok (.if_icmp .ge 92, 3) := by decide +kernel
theorem d10_costOfState_16 : decode c10_costOfState 16 = .ok (.aload_n 0, 1) := by decide +kernel
theorem d10_costOfState_17 : decode c10_costOfState 17 = .ok (.iload_n 1, 1) := by decide +kernel
theorem d10_costOfState_18 : decode c10_costOfState 18 = .ok (.aload_n 0, 1) := by decide +kernel
theorem d10_costOfState_19 : decode c10_costOfState 19 = .ok (.getfield 93, 3) := by decide +kernel
theorem d10_costOfState_22 : decode c10_costOfState 22 = .ok (.iload 5, 2) := by decide +kernel
theorem d10_costOfState_24 : decode c10_costOfState 24 = .ok (.iaload, 1) := by decide +kernel
theorem d10_costOfState_25 : decode c10_costOfState 25 = .ok (.invokevirtual 146, 3) := by decide +kernel
theorem d10_costOfState_28 : decode c10_costOfState 28 = .ok (.istore 6, 2) := by decide +kernel
theorem d10_costOfState_30 : decode c10_costOfState 30 = .ok (.iload_n 2, 1) := by decide +kernel
theorem d10_costOfState_31 : decode c10_costOfState 31 = .ok (.iload 6, 2) := by decide +kernel
theorem d10_costOfState_33 : decode c10_costOfState 33 = .ok (.iconst 2, 1) := by decide +kernel
theorem d10_costOfState_34 : decode c10_costOfState 34 = .ok (.if_icmp .ne 7, 3) := by decide +kernel
theorem d10_costOfState_37 : decode c10_costOfState 37 = .ok (.iconst 1, 1) := by decide +kernel
theorem d10_costOfState_38 : decode c10_costOfState 38 = .ok (.goto 4, 3) := by decide +kernel
theorem d10_costOfState_41 : decode c10_costOfState 41 = .ok (.iconst 0, 1) := by decide +kernel
theorem d10_costOfState_42 : decode c10_costOfState 42 = .ok (.iadd, 1) := by decide +kernel
theorem d10_costOfState_43 : decode c10_costOfState 43 = .ok (.istore_n 2, 1) := by decide +kernel
theorem d10_costOfState_44 : decode c10_costOfState 44 = .ok (.iload_n 3, 1) := by decide +kernel
theorem d10_costOfState_45 : decode c10_costOfState 45 = .ok (.iload 6, 2) := by decide +kernel
theorem d10_costOfState_47 : decode c10_costOfState 47 = .ok (.iconst 1, 1) := by decide +kernel
theorem d10_costOfState_48 : decode c10_costOfState 48 = .ok (.if_icmp .ne 7, 3) := by decide +kernel
theorem d10_costOfState_51 : decode c10_costOfState 51 = .ok (.iconst 1, 1) := by decide +kernel
theorem d10_costOfState_52 : decode c10_costOfState 52 = .ok (.goto 4, 3) := by decide +kernel
theorem d10_costOfState_55 : decode c10_costOfState 55 = .ok (.iconst 0, 1) := by decide +kernel
theorem d10_costOfState_56 : decode c10_costOfState 56 = .ok (.iadd, 1) := by decide +kernel
theorem d10_costOfState_57 : decode c10_costOfState 57 = .ok (.istore_n 3, 1) := by decide +kernel
theorem d10_costOfState_58 : decode c10_costOfState 58 = .ok (.iload 4, 2) := by decide +kernel
theorem d10_costOfState_60 : decode c10_costOfState 60 = .ok (.iload 5, 2) := by decide +kernel
theorem d10_costOfState_62 : decode c10_costOfState 62 = .ok (.iconst 3, 1) := by decide +kernel
theorem d10_costOfState_63 : decode c10_costOfState 63 = .ok (.if_icmp .ge 32, 3) := by decide +kernel
theorem d10_costOfState_66 : decode c10_costOfState 66 = .ok (.aload_n 0, 1) := by decide +kernel
theorem d10_costOfState_67 : decode c10_costOfState 67 = .ok (.getfield 93, 3) := by decide +kernel
theorem d10_costOfState_70 : decode c10_costOfState 70 = .ok (.iload 5, 2) := by decide +kernel
theorem d10_costOfState_72 : decode c10_costOfState 72 = .ok (.iaload, 1) := by decide +kernel
theorem d10_costOfState_73 : decode c10_costOfState 73 = .ok (.aload_n 0, 1) := by decide +kernel
theorem d10_costOfState_74 : decode c10_costOfState 74 = .ok (.getfield 93, 3) := by decide +kernel
theorem d10_costOfState_77 : decode c10_costOfState 77 = .ok (.iload 5, 2) := by decide +kernel
theorem d10_costOfState_79 : decode c10_costOfState 79 = .ok (.iconst 1, 1) := by decide +kernel
theorem d10_costOfState_80 : decode c10_costOfState 80 = .ok (.iadd, 1) := by decide +kernel
theorem d10_costOfState_81 : decode c10_costOfState 81 = .ok (.iaload, 1) := by decide +kernel
theorem d10_costOfState_82 : decode c10_costOfState 82 = .ok (.if_icmp .ne 13, 3) := by decide +kernel
theorem d10_costOfState_85 : decode c10_costOfState 85 = .ok (.aload_n 0, 1) := by decide +kernel
theorem d10_costOfState_86 : decode c10_costOfState 86 = .ok (.getfield 45, 3) := by decide +kernel
theorem d10_costOfState_89 : decode c10_costOfState 89 = .ok (.bipush 8, 2) := by decide +kernel
theorem d10_costOfState_91 : decode c10_costOfState 91 = .ok (.iaload, 1) := by decide +kernel
theorem d10_costOfState_92 : decode c10_costOfState 92 = .ok (.goto 4, 3) := by decide +kernel
theorem d10_costOfState_95 : decode c10_costOfState 95 = .ok (.iconst 0, 1) := by decide +kernel
theorem d10_costOfState_96 : decode c10_costOfState 96 = .ok (.iadd, 1) := by decide +kernel
theorem d10_costOfState_97 : decode c10_costOfState 97 = .ok (.istore 4, 2) := by decide +kernel
theorem d10_costOfState_99 : decode c10_costOfState 99 = .ok (.iinc 5 1, 3) := by decide +kernel
theorem d10_costOfState_102 : decode c10_costOfState 102 = .ok (.goto (-92), 3) := by decide +kernel
theorem d10_costOfState_105 : decode c10_costOfState 105 = .ok (.aload_n 0, 1) := by decide +kernel
theorem d10_costOfState_106 : decode c10_costOfState 106 = .ok (.iload_n 1, 1) := by decide +kernel
theorem d10_costOfState_107 : decode c10_costOfState 107 = .ok (.aload_n 0, 1) := by decide +kernel
theorem d10_costOfState_108 : decode c10_costOfState 108 = .ok (.getfield 93, 3) := by decide +kernel
theorem d10_costOfState_111 : decode c10_costOfState 111 = .ok (.iconst 3, 1) := by decide +kernel
theorem d10_costOfState_112 : decode c10_costOfState 112 = .ok (.iaload, 1) := by decide +kernel
theorem d10_costOfState_113 : decode c10_costOfState 113 = .ok (.invokevirtual 146, 3) := by decide +kernel
theorem d10_costOfState_116 : decode c10_costOfState 116 = .ok (.istore 5, 2) := by decide +kernel
theorem d10_costOfState_118 : decode c10_costOfState 118 = .ok (.iload 4, 2) := by decide +kernel
theorem d10_costOfState_120 : decode c10_costOfState 120 = .ok (.iload_n 2, 1) := by decide +kernel
theorem d10_costOfState_121 : decode c10_costOfState 121 = .ok (.ifCond .ne 12, 3) := by decide +kernel
theorem d10_costOfState_124 : decode c10_costOfState 124 = .ok (.aload_n 0, 1) := by decide +kernel
theorem d10_costOfState_125 : decode c10_costOfState 125 = .ok (.getfield 45, 3) := by decide +kernel
theorem d10_costOfState_128 : decode c10_costOfState 128 = .ok (.iconst 2, 1) := by decide +kernel
theorem d10_costOfState_129 : decode c10_costOfState 129 = .ok (.iaload, 1) := by decide +kernel
theorem d10_costOfState_130 : decode c10_costOfState 130 = .ok (.goto 4, 3) := by decide +kernel
theorem d10_costOfState_133 : decode c10_costOfState 133 = .ok (.iconst 0, 1) := by decide +kernel
theorem d10_costOfState_134 : decode c10_costOfState 134 = .ok (.iadd, 1) := by decide +kernel
theorem d10_costOfState_135 : decode c10_costOfState 135 = .ok (.istore 4, 2) := by decide +kernel
theorem d10_costOfState_137 : decode c10_costOfState 137 = .ok (.iload 4, 2) := by decide +kernel
theorem d10_costOfState_139 : decode c10_costOfState 139 = .ok (.aload_n 0, 1) := by decide +kernel
theorem d10_costOfState_140 : decode c10_costOfState 140 = .ok (.getfield 45, 3) := by decide +kernel
theorem d10_costOfState_143 : decode c10_costOfState 143 = .ok (.iconst 3, 1) := by decide +kernel
theorem d10_costOfState_144 : decode c10_costOfState 144 = .ok (.iaload, 1) := by decide +kernel
theorem d10_costOfState_145 : decode c10_costOfState 145 = .ok (.iload 5, 2) := by decide +kernel
theorem d10_costOfState_147 : decode c10_costOfState 147 = .ok (.iconst 1, 1) := by decide +kernel
theorem d10_costOfState_148 : decode c10_costOfState 148 = .ok (.if_icmp .ne 7, 3) := by decide +kernel
theorem d10_costOfState_151 : decode c10_costOfState 151 = .ok (.iconst 1, 1) := by decide +kernel
theorem d10_costOfState_152 : decode c10_costOfState 152 = .ok (.goto 25, 3) := by decide +kernel
theorem d10_costOfState_155 : decode c10_costOfState 155 = .ok (.iload 5, 2) := by decide +kernel
theorem d10_costOfState_157 : decode c10_costOfState 157 = .ok (.iconst 2, 1) := by decide +kernel
theorem d10_costOfState_158 : decode c10_costOfState 158 = .ok (.if_icmp .ne 8, 3) := by decide +kernel
theorem d10_costOfState_161 : decode c10_costOfState 161 = .ok (.bipush 6, 2) := by decide +kernel
theorem d10_costOfState_163 : decode c10_costOfState 163 = .ok (.goto 14, 3) := by decide +kernel
theorem d10_costOfState_166 : decode c10_costOfState 166 = .ok (.iload 5, 2) := by decide +kernel
theorem d10_costOfState_168 : decode c10_costOfState 168 = .ok (.iconst 3, 1) := by decide +kernel
theorem d10_costOfState_169 : decode c10_costOfState 169 = .ok (.if_icmp .ne 7, 3) := by decide +kernel
theorem d10_costOfState_172 : decode c10_costOfState 172 = .ok (.iconst 2, 1) := by decide +kernel
theorem d10_costOfState_173 : decode c10_costOfState 173 = .ok (.goto 4, 3) := by decide +kernel
theorem d10_costOfState_176 : decode c10_costOfState 176 = .ok (.iconst 0, 1) := by decide +kernel
theorem d10_costOfState_177 : decode c10_costOfState 177 = .ok (.imul, 1) := by decide +kernel
theorem d10_costOfState_178 : decode c10_costOfState 178 = .ok (.iadd, 1) := by decide +kernel
theorem d10_costOfState_179 : decode c10_costOfState 179 = .ok (.istore 4, 2) := by decide +kernel
theorem d10_costOfState_181 : decode c10_costOfState 181 = .ok (.iload 4, 2) := by decide +kernel
theorem d10_costOfState_183 : decode c10_costOfState 183 = .ok (.iload_n 3, 1) := by decide +kernel
theorem d10_costOfState_184 : decode c10_costOfState 184 = .ok (.iconst 1, 1) := by decide +kernel
theorem d10_costOfState_185 : decode c10_costOfState 185 = .ok (.if_icmp .le 27, 3) := by decide +kernel
theorem d10_costOfState_188 : decode c10_costOfState 188 = .ok (.iload_n 1, 1) := by decide +kernel
theorem d10_costOfState_189 : decode c10_costOfState 189 = .ok (.ifCond .eq 13, 3) := by decide +kernel
theorem d10_costOfState_192 : decode c10_costOfState 192 = .ok (.iload_n 1, 1) := by decide +kernel
theorem d10_costOfState_193 : decode c10_costOfState 193 = .ok (.iconst 3, 1) := by decide +kernel
theorem d10_costOfState_194 : decode c10_costOfState 194 = .ok (.if_icmp .eq 8, 3) := by decide +kernel
theorem d10_costOfState_197 : decode c10_costOfState 197 = .ok (.iload_n 1, 1) := by decide +kernel
theorem d10_costOfState_198 : decode c10_costOfState 198 = .ok (.iconst 4, 1) := by decide +kernel
theorem d10_costOfState_199 : decode c10_costOfState 199 = .ok (.if_icmp .ne 13, 3) := by decide +kernel
theorem d10_costOfState_202 : decode c10_costOfState 202 = .ok (.aload_n 0, 1) := by decide +kernel
theorem d10_costOfState_203 : decode c10_costOfState 203 = .ok (.getfield 45, 3) := by decide +kernel
theorem d10_costOfState_206 : decode c10_costOfState 206 = .ok (.bipush 6, 2) := by decide +kernel
theorem d10_costOfState_208 : decode c10_costOfState 208 = .ok (.iaload, 1) := by decide +kernel
theorem d10_costOfState_209 : decode c10_costOfState 209 = .ok (.goto 4, 3) := by decide +kernel
theorem d10_costOfState_212 : decode c10_costOfState 212 = .ok (.iconst 0, 1) := by decide +kernel
theorem d10_costOfState_213 : decode c10_costOfState 213 = .ok (.iadd, 1) := by decide +kernel
theorem d10_costOfState_214 : decode c10_costOfState 214 = .ok (.ireturn, 1) := by decide +kernel
def t10_costOfState (l : Launch) (Po : ri_O) : List ri_S := [i_con 1 0,
  i_is 2 2,
  i_con 3 0,
  i_is 4 3,
  i_con 5 0,
  i_is 6 4,
  i_con 7 0,
  i_is 8 5,
  i_il 9 5,
  i_con 10 4,
  i_icmp 11 62 (fun x y => y ≤ x),
  i_al 12 0,
  i_il 13 1,
  i_al 14 0,
  i_get 15 10 31,
  i_il 16 5,
  i_ald 17 0,
  i_callV 18 3 10 (ri_Ev l y10_memberOf w10_memberOf r10_memberOf 0 0) 0 0 0 0,
  i_is 19 6,
  i_il 20 2,
  i_il 21 6,
  i_con 22 2,
  i_icmp 23 25 (fun x y => ¬ x = y),
  i_con 24 1,
  i_goto 26,
  i_con 26 0,
  i_bin 27 (fun x y => x + y),
  i_is 28 2,
  i_il 29 3,
  i_il 30 6,
  i_con 31 1,
  i_icmp 32 34 (fun x y => ¬ x = y),
  i_con 33 1,
  i_goto 35,
  i_con 35 0,
  i_bin 36 (fun x y => x + y),
  i_is 37 3,
  i_il 38 4,
  i_il 39 5,
  i_con 40 3,
  i_icmp 41 57 (fun x y => y ≤ x),
  i_al 42 0,
  i_get 43 10 31,
  i_il 44 5,
  i_ald 45 0,
  i_al 46 0,
  i_get 47 10 31,
  i_il 48 5,
  i_con 49 1,
  i_bin 50 (fun x y => x + y),
  i_ald 51 0,
  i_icmp 52 57 (fun x y => ¬ x = y),
  i_al 53 0,
  i_get 54 10 13,
  i_con 55 8,
  i_ald 56 0,
  i_goto 58,
  i_con 58 0,
  i_bin 59 (fun x y => x + y),
  i_is 60 4,
  i_inc 61 5 1,
  i_goto 8,
  i_al 63 0,
  i_il 64 1,
  i_al 65 0,
  i_get 66 10 31,
  i_con 67 3,
  i_ald 68 0,
  i_callV 69 3 10 (ri_Ev l y10_memberOf w10_memberOf r10_memberOf 0 0) 0 0 0 0,
  i_is 70 5,
  i_il 71 4,
  i_il 72 2,
  i_if 73 78 (fun x => ¬ x = 0),
  i_al 74 0,
  i_get 75 10 13,
  i_con 76 2,
  i_ald 77 0,
  i_goto 79,
  i_con 79 0,
  i_bin 80 (fun x y => x + y),
  i_is 81 4,
  i_il 82 4,
  i_al 83 0,
  i_get 84 10 13,
  i_con 85 3,
  i_ald 86 0,
  i_il 87 5,
  i_con 88 1,
  i_icmp 89 91 (fun x y => ¬ x = y),
  i_con 90 1,
  i_goto 102,
  i_il 92 5,
  i_con 93 2,
  i_icmp 94 96 (fun x y => ¬ x = y),
  i_con 95 6,
  i_goto 102,
  i_il 97 5,
  i_con 98 3,
  i_icmp 99 101 (fun x y => ¬ x = y),
  i_con 100 2,
  i_goto 102,
  i_con 102 0,
  i_bin 103 (fun x y => x * y),
  i_bin 104 (fun x y => x + y),
  i_is 105 4,
  i_il 106 4,
  i_il 107 3,
  i_con 108 1,
  i_icmp 109 122 (fun x y => x ≤ y),
  i_il 110 1,
  i_if 111 117 (fun x => x = 0),
  i_il 112 1,
  i_con 113 3,
  i_icmp 114 117 (fun x y => x = y),
  i_il 115 1,
  i_con 116 4,
  i_icmp 117 122 (fun x y => ¬ x = y),
  i_al 118 0,
  i_get 119 10 13,
  i_con 120 6,
  i_ald 121 0,
  i_goto 123,
  i_con 123 0,
  i_bin 124 (fun x y => x + y),
  i_ret Po 0 0]
set_option maxRecDepth 20000 in
set_option maxHeartbeats 4000000 in
theorem z10_costOfState (l : Launch) (Po : ri_O) (p : Program) (e : Env) (s : State) (m : MethodId) (args : Array Value) (below : List Frame) (meth : Method) (c : Code) (D : va_G) (ka : Nat → ClassId) (sa : Nat → Nat) (base : Nat) (X : ri_X p s m args c c10_costOfState 7 w10_costOfState "ChoraleSearchModel" D ka sa base) (hret : meth.sig.returnType = (some .int)) (hlocks : meth.locks = false) (hname : meth.name = "costOfState") : ri_clo (ri_W p l e r10_costOfState s m args below meth c D ka sa base 7 (MQ below (ri_Qc D ka sa base Po) args s 0 0 (fun q => base ≤ q)) p10_costOfState) (t10_costOfState l Po) := by
  refine ri_clo_of ?_
  unfold t10_costOfState
  exact ⟨s_iconst X d10_costOfState_0 rfl rfl,
    s_istore_n X d10_costOfState_1 rfl (by decide) rfl,
    s_iconst X d10_costOfState_2 rfl rfl,
    s_istore_n X d10_costOfState_3 rfl (by decide) rfl,
    s_iconst X d10_costOfState_4 rfl rfl,
    s_istore X d10_costOfState_5 (by decide) rfl,
    s_iconst X d10_costOfState_7 rfl rfl,
    s_istore X d10_costOfState_8 (by decide) rfl,
    s_iload X d10_costOfState_10 rfl,
    s_iconst X d10_costOfState_12 rfl rfl,
    s_icmp_ge X d10_costOfState_13 rfl rfl,
    s_aload_n X d10_costOfState_16 rfl rfl,
    s_iload_n X d10_costOfState_17 rfl rfl,
    s_aload_n X d10_costOfState_18 rfl rfl,
    s_get X (ci := 10) (f := 31) rfl (fun w h => List.mem_cons_of_mem _ (uC_10 w h)) (by decide) (List.mem_cons_of_mem _ mgw_845) d10_costOfState_19 rfl,
    s_iload X d10_costOfState_22 rfl,
    s_iald X rfl d10_costOfState_24 rfl,
    s_callV ri_NW_ok X (na := 2) (ci := 10) rfl ⟨ri_cB X 2 mgw_1000 (List.mem_cons_of_mem _ mgw_12) (List.mem_cons_of_mem _ mgw_997) (by decide +kernel) rfl rfl ⟨by decide, by decide⟩, X.2.2.2.2.1 _ (List.mem_cons_of_mem _ mgw_999), X.2.2.2.2.1 _ (List.mem_cons_of_mem _ mgp_80)⟩ d10_costOfState_25 rfl,
    s_istore X d10_costOfState_28 (by decide) rfl,
    s_iload_n X d10_costOfState_30 rfl rfl,
    s_iload X d10_costOfState_31 rfl,
    s_iconst X d10_costOfState_33 rfl rfl,
    s_icmp_ne X d10_costOfState_34 rfl rfl,
    s_iconst X d10_costOfState_37 rfl rfl,
    s_goto X d10_costOfState_38 rfl,
    s_iconst X d10_costOfState_41 rfl rfl,
    s_iadd X d10_costOfState_42 rfl,
    s_istore_n X d10_costOfState_43 rfl (by decide) rfl,
    s_iload_n X d10_costOfState_44 rfl rfl,
    s_iload X d10_costOfState_45 rfl,
    s_iconst X d10_costOfState_47 rfl rfl,
    s_icmp_ne X d10_costOfState_48 rfl rfl,
    s_iconst X d10_costOfState_51 rfl rfl,
    s_goto X d10_costOfState_52 rfl,
    s_iconst X d10_costOfState_55 rfl rfl,
    s_iadd X d10_costOfState_56 rfl,
    s_istore_n X d10_costOfState_57 rfl (by decide) rfl,
    s_iload X d10_costOfState_58 rfl,
    s_iload X d10_costOfState_60 rfl,
    s_iconst X d10_costOfState_62 rfl rfl,
    s_icmp_ge X d10_costOfState_63 rfl rfl,
    s_aload_n X d10_costOfState_66 rfl rfl,
    s_get X (ci := 10) (f := 31) rfl (fun w h => List.mem_cons_of_mem _ (uC_10 w h)) (by decide) (List.mem_cons_of_mem _ mgw_845) d10_costOfState_67 rfl,
    s_iload X d10_costOfState_70 rfl,
    s_iald X rfl d10_costOfState_72 rfl,
    s_aload_n X d10_costOfState_73 rfl rfl,
    s_get X (ci := 10) (f := 31) rfl (fun w h => List.mem_cons_of_mem _ (uC_10 w h)) (by decide) (List.mem_cons_of_mem _ mgw_845) d10_costOfState_74 rfl,
    s_iload X d10_costOfState_77 rfl,
    s_iconst X d10_costOfState_79 rfl rfl,
    s_iadd X d10_costOfState_80 rfl,
    s_iald X rfl d10_costOfState_81 rfl,
    s_icmp_ne X d10_costOfState_82 rfl rfl,
    s_aload_n X d10_costOfState_85 rfl rfl,
    s_get X (ci := 10) (f := 13) rfl (fun w h => List.mem_cons_of_mem _ (uC_10 w h)) (by decide) (List.mem_cons_of_mem _ mgw_827) d10_costOfState_86 rfl,
    s_bipush X d10_costOfState_89 rfl rfl,
    s_iald X rfl d10_costOfState_91 rfl,
    s_goto X d10_costOfState_92 rfl,
    s_iconst X d10_costOfState_95 rfl rfl,
    s_iadd X d10_costOfState_96 rfl,
    s_istore X d10_costOfState_97 (by decide) rfl,
    s_iinc X d10_costOfState_99 rfl (by decide) rfl,
    s_goto X d10_costOfState_102 rfl,
    s_aload_n X d10_costOfState_105 rfl rfl,
    s_iload_n X d10_costOfState_106 rfl rfl,
    s_aload_n X d10_costOfState_107 rfl rfl,
    s_get X (ci := 10) (f := 31) rfl (fun w h => List.mem_cons_of_mem _ (uC_10 w h)) (by decide) (List.mem_cons_of_mem _ mgw_845) d10_costOfState_108 rfl,
    s_iconst X d10_costOfState_111 rfl rfl,
    s_iald X rfl d10_costOfState_112 rfl,
    s_callV ri_NW_ok X (na := 2) (ci := 10) rfl ⟨ri_cB X 2 mgw_1000 (List.mem_cons_of_mem _ mgw_12) (List.mem_cons_of_mem _ mgw_997) (by decide +kernel) rfl rfl ⟨by decide, by decide⟩, X.2.2.2.2.1 _ (List.mem_cons_of_mem _ mgw_999), X.2.2.2.2.1 _ (List.mem_cons_of_mem _ mgp_80)⟩ d10_costOfState_113 rfl,
    s_istore X d10_costOfState_116 (by decide) rfl,
    s_iload X d10_costOfState_118 rfl,
    s_iload_n X d10_costOfState_120 rfl rfl,
    s_if_ne X d10_costOfState_121 rfl rfl,
    s_aload_n X d10_costOfState_124 rfl rfl,
    s_get X (ci := 10) (f := 13) rfl (fun w h => List.mem_cons_of_mem _ (uC_10 w h)) (by decide) (List.mem_cons_of_mem _ mgw_827) d10_costOfState_125 rfl,
    s_iconst X d10_costOfState_128 rfl rfl,
    s_iald X rfl d10_costOfState_129 rfl,
    s_goto X d10_costOfState_130 rfl,
    s_iconst X d10_costOfState_133 rfl rfl,
    s_iadd X d10_costOfState_134 rfl,
    s_istore X d10_costOfState_135 (by decide) rfl,
    s_iload X d10_costOfState_137 rfl,
    s_aload_n X d10_costOfState_139 rfl rfl,
    s_get X (ci := 10) (f := 13) rfl (fun w h => List.mem_cons_of_mem _ (uC_10 w h)) (by decide) (List.mem_cons_of_mem _ mgw_827) d10_costOfState_140 rfl,
    s_iconst X d10_costOfState_143 rfl rfl,
    s_iald X rfl d10_costOfState_144 rfl,
    s_iload X d10_costOfState_145 rfl,
    s_iconst X d10_costOfState_147 rfl rfl,
    s_icmp_ne X d10_costOfState_148 rfl rfl,
    s_iconst X d10_costOfState_151 rfl rfl,
    s_goto X d10_costOfState_152 rfl,
    s_iload X d10_costOfState_155 rfl,
    s_iconst X d10_costOfState_157 rfl rfl,
    s_icmp_ne X d10_costOfState_158 rfl rfl,
    s_bipush X d10_costOfState_161 rfl rfl,
    s_goto X d10_costOfState_163 rfl,
    s_iload X d10_costOfState_166 rfl,
    s_iconst X d10_costOfState_168 rfl rfl,
    s_icmp_ne X d10_costOfState_169 rfl rfl,
    s_iconst X d10_costOfState_172 rfl rfl,
    s_goto X d10_costOfState_173 rfl,
    s_iconst X d10_costOfState_176 rfl rfl,
    s_imul X d10_costOfState_177 rfl,
    s_iadd X d10_costOfState_178 rfl,
    s_istore X d10_costOfState_179 (by decide) rfl,
    s_iload X d10_costOfState_181 rfl,
    s_iload_n X d10_costOfState_183 rfl rfl,
    s_iconst X d10_costOfState_184 rfl rfl,
    s_icmp_le X d10_costOfState_185 rfl rfl,
    s_iload_n X d10_costOfState_188 rfl rfl,
    s_if_eq X d10_costOfState_189 rfl rfl,
    s_iload_n X d10_costOfState_192 rfl rfl,
    s_iconst X d10_costOfState_193 rfl rfl,
    s_icmp_eq X d10_costOfState_194 rfl rfl,
    s_iload_n X d10_costOfState_197 rfl rfl,
    s_iconst X d10_costOfState_198 rfl rfl,
    s_icmp_ne X d10_costOfState_199 rfl rfl,
    s_aload_n X d10_costOfState_202 rfl rfl,
    s_get X (ci := 10) (f := 13) rfl (fun w h => List.mem_cons_of_mem _ (uC_10 w h)) (by decide) (List.mem_cons_of_mem _ mgw_827) d10_costOfState_203 rfl,
    s_bipush X d10_costOfState_206 rfl rfl,
    s_iald X rfl d10_costOfState_208 rfl,
    s_goto X d10_costOfState_209 rfl,
    s_iconst X d10_costOfState_212 rfl rfl,
    s_iadd X d10_costOfState_213 rfl,
    s_iret X hret hlocks d10_costOfState_214, trivial⟩
theorem d10_solve_0 : decode c10_solve 0 = .ok (.aload_n 0, 1) := by decide +kernel
theorem d10_solve_1 : decode c10_solve 1 = .ok (.iconst 0, 1) := by decide +kernel
theorem d10_solve_2 : decode c10_solve 2 = .ok (.putfield 1, 3) := by decide +kernel
theorem d10_solve_5 : decode c10_solve 5 = .ok (.iload_n 1, 1) := by decide +kernel
theorem d10_solve_6 : decode c10_solve 6 = .ok (.i2l, 1) := by decide +kernel
theorem d10_solve_7 : decode c10_solve 7 = .ok (.lconst 0, 1) := by decide +kernel
theorem d10_solve_8 : decode c10_solve 8 = .ok (.ldc2_w 208, 3) := by decide +kernel
theorem d10_solve_11 : decode c10_solve 11 = .ok (.invokestatic 119, 3) := by decide +kernel
theorem d10_solve_14 : decode c10_solve 14 = .ok (.ifCond .ne 5, 3) := by decide +kernel
theorem d10_solve_17 : decode c10_solve 17 = .ok (.iconst (-1), 1) := by decide +kernel
theorem d10_solve_18 : decode c10_solve 18 = .ok (.ireturn, 1) := by decide +kernel
theorem d10_solve_19 : decode c10_solve 19 = .ok (.aload_n 0, 1) := by decide +kernel
theorem d10_solve_20 : decode c10_solve 20 = .ok (.iconst 0, 1) := by decide +kernel
theorem d10_solve_21 : decode c10_solve 21 = .ok (.putfield 123, 3) := by decide +kernel
theorem d10_solve_24 : decode c10_solve 24 = .ok (.aload_n 0, 1) := by decide +kernel
theorem d10_solve_25 : decode c10_solve 25 = .ok (.invokevirtual 210, 3) := by decide +kernel
theorem d10_solve_28 : decode c10_solve 28 = .ok (.ifCond .ne 6, 3) := by decide +kernel
theorem d10_solve_31 : decode c10_solve 31 = .ok (.bipush (-3), 2) := by decide +kernel
theorem d10_solve_33 : decode c10_solve 33 = .ok (.ireturn, 1) := by decide +kernel
theorem d10_solve_34 : decode c10_solve 34 = .ok (.aload_n 0, 1) := by decide +kernel
theorem d10_solve_35 : decode c10_solve 35 = .ok (.aload_n 0, 1) := by decide +kernel
theorem d10_solve_36 : decode c10_solve 36 = .ok (.iload_n 1, 1) := by decide +kernel
theorem d10_solve_37 : decode c10_solve 37 = .ok (.invokevirtual 214, 3) := by decide +kernel
theorem d10_solve_40 : decode c10_solve 40 = .ok (.putfield 217, 3) := by decide +kernel
theorem d10_solve_43 : decode c10_solve 43 = .ok (.aload_n 0, 1) := by decide +kernel
theorem d10_solve_44 : decode c10_solve 44 = .ok (.invokevirtual 220, 3) := by decide +kernel
theorem d10_solve_47 : decode c10_solve 47 = .ok (.aload_n 0, 1) := by decide +kernel
theorem d10_solve_48 : decode c10_solve 48 = .ok (.getfield 123, 3) := by decide +kernel
theorem d10_solve_51 : decode c10_solve 51 = .ok (.ireturn, 1) := by decide +kernel
def t10_solve (l : Launch) (Po : ri_O) : List ri_S := [i_al 1 0,
  i_con 2 0,
  i_put 3 10 0 ri_isI,
  i_il 4 1,
  i_i2l 5,
  i_lcon 6 0,
  i_lcon 7 100,
  i_call 8 3 (ri_Ev l y10_in w10_in r10_in 0 0) 0 0 0 0,
  i_if 9 11 (fun x => ¬ x = 0),
  i_con 10 (-1),
  i_ret Po 0 0,
  i_al 12 0,
  i_con 13 0,
  i_put 14 10 26 ri_isI,
  i_al 15 0,
  i_callV 16 1 10 (ri_Ev l y10_findAll w10_findAll r10_findAll 0 0) 0 0 0 0,
  i_if 17 19 (fun x => ¬ x = 0),
  i_con 18 (-3),
  i_ret Po 0 0,
  i_al 20 0,
  i_al 21 0,
  i_il 22 1,
  i_callV 23 2 10 (ri_Ev l y10_goBack w10_goBack r10_goBack 0 0) 0 0 0 0,
  i_put 24 10 30 ri_isZ,
  i_al 25 0,
  i_callV 26 1 10 (ri_Ev l y10_takeRows w10_takeRows r10_takeRows 0 0) 0 0 0 0,
  i_al 27 0,
  i_get 28 10 26,
  i_ret Po 0 0]
set_option maxRecDepth 20000 in
set_option maxHeartbeats 4000000 in
theorem z10_solve (l : Launch) (Po : ri_O) (p : Program) (e : Env) (s : State) (m : MethodId) (args : Array Value) (below : List Frame) (meth : Method) (c : Code) (D : va_G) (ka : Nat → ClassId) (sa : Nat → Nat) (base : Nat) (X : ri_X p s m args c c10_solve 2 w10_solve "ChoraleSearchModel" D ka sa base) (hret : meth.sig.returnType = (some .int)) (hlocks : meth.locks = false) (hname : meth.name = "solve") : ri_clo (ri_W p l e r10_solve s m args below meth c D ka sa base 2 (MQ below (ri_Qc D ka sa base Po) args s 0 0 (fun q => base ≤ q)) p10_solve) (t10_solve l Po) := by
  refine ri_clo_of ?_
  unfold t10_solve
  exact ⟨s_aload_n X d10_solve_0 rfl rfl,
    s_iconst X d10_solve_1 rfl rfl,
    s_put X (ci := 10) (f := 0) rfl (fun w h => List.mem_cons_of_mem _ (uC_10 w h)) (by decide) tC_10 oC_10 nC_10 rfl ri_ok_int (List.mem_cons_of_mem _ mgw_814) d10_solve_2 rfl,
    s_iload_n X d10_solve_5 rfl rfl,
    s_i2l X d10_solve_6 rfl,
    s_lconst X d10_solve_7 rfl rfl,
    s_ldc2 X d10_solve_8 (List.mem_cons_of_mem _ mgw_1029) rfl,
    s_callS ri_NW_ok X ⟨ri_cB X 3 mgw_930 (List.mem_cons_of_mem _ mgw_12) (List.mem_cons_of_mem _ mgw_928) (by decide +kernel) rfl rfl ⟨by decide, by decide⟩, X.2.2.2.2.1 _ (List.mem_cons_of_mem _ mgw_929)⟩ d10_solve_11 rfl,
    s_if_ne X d10_solve_14 rfl rfl,
    s_iconst X d10_solve_17 rfl rfl,
    s_iret X hret hlocks d10_solve_18,
    s_aload_n X d10_solve_19 rfl rfl,
    s_iconst X d10_solve_20 rfl rfl,
    s_put X (ci := 10) (f := 26) rfl (fun w h => List.mem_cons_of_mem _ (uC_10 w h)) (by decide) tC_10 oC_10 nC_10 rfl ri_ok_int (List.mem_cons_of_mem _ mgw_840) d10_solve_21 rfl,
    s_aload_n X d10_solve_24 rfl rfl,
    s_callV ri_NW_ok X (na := 0) (ci := 10) rfl ⟨ri_cB X 0 mgw_1033 (List.mem_cons_of_mem _ mgw_12) (List.mem_cons_of_mem _ mgw_1030) (by decide +kernel) rfl rfl ⟨by decide, by decide⟩, X.2.2.2.2.1 _ (List.mem_cons_of_mem _ mgw_1032), X.2.2.2.2.1 _ (List.mem_cons_of_mem _ mgp_87)⟩ d10_solve_25 rfl,
    s_if_ne X d10_solve_28 rfl rfl,
    s_bipush X d10_solve_31 rfl rfl,
    s_iret X hret hlocks d10_solve_33,
    s_aload_n X d10_solve_34 rfl rfl,
    s_aload_n X d10_solve_35 rfl rfl,
    s_iload_n X d10_solve_36 rfl rfl,
    s_callV ri_NW_ok X (na := 1) (ci := 10) rfl ⟨ri_cB X 1 mgw_1037 (List.mem_cons_of_mem _ mgw_12) (List.mem_cons_of_mem _ mgw_1034) (by decide +kernel) rfl rfl ⟨by decide, by decide⟩, X.2.2.2.2.1 _ (List.mem_cons_of_mem _ mgw_1036), X.2.2.2.2.1 _ (List.mem_cons_of_mem _ mgp_88)⟩ d10_solve_37 rfl,
    s_put X (ci := 10) (f := 30) rfl (fun w h => List.mem_cons_of_mem _ (uC_10 w h)) (by decide) tC_10 oC_10 nC_10 rfl ri_ok_bool (List.mem_cons_of_mem _ mgw_844) d10_solve_40 rfl,
    s_aload_n X d10_solve_43 rfl rfl,
    s_callV ri_NW_ok X (na := 0) (ci := 10) rfl ⟨ri_cB X 0 mgw_1073 (List.mem_cons_of_mem _ mgw_12) (List.mem_cons_of_mem _ mgw_1070) (by decide +kernel) rfl rfl ⟨by decide, by decide⟩, X.2.2.2.2.1 _ (List.mem_cons_of_mem _ mgw_1072), X.2.2.2.2.1 _ (List.mem_cons_of_mem _ mgp_94)⟩ d10_solve_44 rfl,
    s_aload_n X d10_solve_47 rfl rfl,
    s_get X (ci := 10) (f := 26) rfl (fun w h => List.mem_cons_of_mem _ (uC_10 w h)) (by decide) (List.mem_cons_of_mem _ mgw_840) d10_solve_48 rfl,
    s_iret X hret hlocks d10_solve_51, trivial⟩
theorem d10_findAll_0 : decode c10_findAll 0 = .ok (.iconst 0, 1) := by decide +kernel
theorem d10_findAll_1 : decode c10_findAll 1 = .ok (.istore_n 1, 1) := by decide +kernel
theorem d10_findAll_2 : decode c10_findAll 2 = .ok (.iload_n 1, 1) := by decide +kernel
theorem d10_findAll_3 : decode c10_findAll 3 = .ok (.aload_n 0, 1) := by decide +kernel
theorem d10_findAll_4 : decode c10_findAll 4 = .ok (.getfield 26, 3) := by decide +kernel
theorem d10_findAll_7 : decode c10_findAll 7 = .ok (.if_icmp .ge 36, 3) := by decide +kernel
theorem d10_findAll_10 : decode c10_findAll 10 = .ok (.aload_n 0, 1) := by decide +kernel
theorem d10_findAll_11 : decode c10_findAll 11 = .ok (.getfield 63, 3) := by decide +kernel
theorem d10_findAll_14 : decode c10_findAll 14 = .ok (.iload_n 1, 1) := by decide +kernel
theorem d10_findAll_15 : decode c10_findAll 15 = .ok (.aload_n 0, 1) := by decide +kernel
theorem d10_findAll_16 : decode c10_findAll 16 = .ok (.iload_n 1, 1) := by decide +kernel
theorem d10_findAll_17 : decode c10_findAll 17 = .ok (.iconst 1, 1) := by decide +kernel
theorem d10_findAll_18 : decode c10_findAll 18 = .ok (.iconst 0, 1) := by decide +kernel
theorem d10_findAll_19 : decode c10_findAll 19 = .ok (.invokevirtual 175, 3) := by decide +kernel
theorem d10_findAll_22 : decode c10_findAll 22 = .ok (.iastore, 1) := by decide +kernel
theorem d10_findAll_23 : decode c10_findAll 23 = .ok (.aload_n 0, 1) := by decide +kernel
theorem d10_findAll_24 : decode c10_findAll 24 = .ok (.getfield 63, 3) := by decide +kernel
theorem d10_findAll_27 : decode c10_findAll 27 = .ok (.iload_n 1, 1) := by decide +kernel
theorem d10_findAll_28 : decode c10_findAll 28 = .ok (.iaload, 1) := by decide +kernel
theorem d10_findAll_29 : decode c10_findAll 29 = .ok (.sipush 400, 3) := by decide +kernel
theorem d10_findAll_32 : decode c10_findAll 32 = .ok (.if_icmp .le 5, 3) := by decide +kernel
theorem d10_findAll_35 : decode c10_findAll 35 = .ok (.iconst 0, 1) := by decide +kernel
theorem d10_findAll_36 : decode c10_findAll 36 = .ok (.ireturn, 1) := by decide +kernel
theorem d10_findAll_37 : decode c10_findAll 37 = .ok (.iinc 1 1, 3) := by decide +kernel
theorem d10_findAll_40 : decode c10_findAll 40 = .ok (.goto (-38), 3) := by decide +kernel
theorem d10_findAll_43 : decode c10_findAll 43 = .ok (.iconst 1, 1) := by decide +kernel
theorem d10_findAll_44 : decode c10_findAll 44 = .ok (.ireturn, 1) := by decide +kernel
def t10_findAll (l : Launch) (Po : ri_O) : List ri_S := [i_con 1 0,
  i_is 2 1,
  i_il 3 1,
  i_al 4 0,
  i_get 5 10 7,
  i_icmp 6 25 (fun x y => y ≤ x),
  i_al 7 0,
  i_get 8 10 19,
  i_il 9 1,
  i_al 10 0,
  i_il 11 1,
  i_con 12 1,
  i_con 13 0,
  i_callV 14 4 10 (ri_Ev l y10_findStates w10_findStates r10_findStates 0 0) 0 0 0 0,
  i_ast 15 0 (fun x => x),
  i_al 16 0,
  i_get 17 10 19,
  i_il 18 1,
  i_ald 19 0,
  i_con 20 400,
  i_icmp 21 23 (fun x y => x ≤ y),
  i_con 22 0,
  i_zret Po 0 0,
  i_inc 24 1 1,
  i_goto 2,
  i_con 26 1,
  i_zret Po 0 0]
set_option maxRecDepth 20000 in
set_option maxHeartbeats 4000000 in
theorem z10_findAll (l : Launch) (Po : ri_O) (p : Program) (e : Env) (s : State) (m : MethodId) (args : Array Value) (below : List Frame) (meth : Method) (c : Code) (D : va_G) (ka : Nat → ClassId) (sa : Nat → Nat) (base : Nat) (X : ri_X p s m args c c10_findAll 2 w10_findAll "ChoraleSearchModel" D ka sa base) (hret : meth.sig.returnType = (some .boolean)) (hlocks : meth.locks = false) (hname : meth.name = "findAll") : ri_clo (ri_W p l e r10_findAll s m args below meth c D ka sa base 2 (MQ below (ri_Qc D ka sa base Po) args s 0 0 (fun q => base ≤ q)) p10_findAll) (t10_findAll l Po) := by
  refine ri_clo_of ?_
  unfold t10_findAll
  exact ⟨s_iconst X d10_findAll_0 rfl rfl,
    s_istore_n X d10_findAll_1 rfl (by decide) rfl,
    s_iload_n X d10_findAll_2 rfl rfl,
    s_aload_n X d10_findAll_3 rfl rfl,
    s_get X (ci := 10) (f := 7) rfl (fun w h => List.mem_cons_of_mem _ (uC_10 w h)) (by decide) (List.mem_cons_of_mem _ mgw_821) d10_findAll_4 rfl,
    s_icmp_ge X d10_findAll_7 rfl rfl,
    s_aload_n X d10_findAll_10 rfl rfl,
    s_get X (ci := 10) (f := 19) rfl (fun w h => List.mem_cons_of_mem _ (uC_10 w h)) (by decide) (List.mem_cons_of_mem _ mgw_833) d10_findAll_11 rfl,
    s_iload_n X d10_findAll_14 rfl rfl,
    s_aload_n X d10_findAll_15 rfl rfl,
    s_iload_n X d10_findAll_16 rfl rfl,
    s_iconst X d10_findAll_17 rfl rfl,
    s_iconst X d10_findAll_18 rfl rfl,
    s_callV ri_NW_ok X (na := 3) (ci := 10) rfl ⟨ri_cB X 3 mgw_986 (List.mem_cons_of_mem _ mgw_12) (List.mem_cons_of_mem _ mgw_983) (by decide +kernel) rfl rfl ⟨by decide, by decide⟩, X.2.2.2.2.1 _ (List.mem_cons_of_mem _ mgw_985), X.2.2.2.2.1 _ (List.mem_cons_of_mem _ mgp_78)⟩ d10_findAll_19 rfl,
    s_iast X rfl d10_findAll_22 rfl,
    s_aload_n X d10_findAll_23 rfl rfl,
    s_get X (ci := 10) (f := 19) rfl (fun w h => List.mem_cons_of_mem _ (uC_10 w h)) (by decide) (List.mem_cons_of_mem _ mgw_833) d10_findAll_24 rfl,
    s_iload_n X d10_findAll_27 rfl rfl,
    s_iald X rfl d10_findAll_28 rfl,
    s_sipush X d10_findAll_29 rfl rfl,
    s_icmp_le X d10_findAll_32 rfl rfl,
    s_iconst X d10_findAll_35 rfl rfl,
    s_zret X hret hlocks d10_findAll_36,
    s_iinc X d10_findAll_37 rfl (by decide) rfl,
    s_goto X d10_findAll_40 rfl,
    s_iconst X d10_findAll_43 rfl rfl,
    s_zret X hret hlocks d10_findAll_44, trivial⟩
theorem d10_goBack_0 : decode c10_goBack 0 = .ok (.iconst 0, 1) := by decide +kernel
theorem d10_goBack_1 : decode c10_goBack 1 = .ok (.istore_n 2, 1) := by decide +kernel
theorem d10_goBack_2 : decode c10_goBack 2 = .ok (.aload_n 0, 1) := by decide +kernel
theorem d10_goBack_3 : decode c10_goBack 3 = .ok (.getfield 26, 3) := by decide +kernel
theorem d10_goBack_6 : decode c10_goBack 6 = .ok (.iconst 1, 1) := by decide +kernel
theorem d10_goBack_7 : decode c10_goBack 7 = .ok (.isub, 1) := by decide +kernel
theorem d10_goBack_8 : decode c10_goBack 8 = .ok (.istore_n 3, 1) := by decide +kernel
theorem d10_goBack_9 : decode c10_goBack 9 = .ok (.iload_n 3, 1) := by decide +kernel
theorem d10_goBack_10 : decode c10_goBack 10 = .ok (.ifCond .lt 214, 3) := by decide +kernel
theorem d10_goBack_13 : decode c10_goBack 13 = .ok (.sipush 400, 3) := by decide +kernel
theorem d10_goBack_16 : decode c10_goBack 16 = .ok (.iload_n 3, 1) := by decide +kernel
theorem d10_goBack_17 : decode c10_goBack 17 = .ok (.imul, 1) := by decide +kernel
theorem d10_goBack_18 : decode c10_goBack 18 = .ok (.istore 4, 2) := by decide +kernel
theorem d10_goBack_20 : decode c10_goBack 20 = .ok (.iload 4, 2) := by decide +kernel
theorem d10_goBack_22 : decode c10_goBack 22 = .ok (.sipush 400, 3) := by decide +kernel
theorem d10_goBack_25 : decode c10_goBack 25 = .ok (.iload_n 3, 1) := by decide +kernel
theorem d10_goBack_26 : decode c10_goBack 26 = .ok (.imul, 1) := by decide +kernel
theorem d10_goBack_27 : decode c10_goBack 27 = .ok (.aload_n 0, 1) := by decide +kernel
theorem d10_goBack_28 : decode c10_goBack 28 = .ok (.getfield 63, 3) := by decide +kernel
theorem d10_goBack_31 : decode c10_goBack 31 = .ok (.iload_n 3, 1) := by decide +kernel
theorem d10_goBack_32 : decode c10_goBack 32 = .ok (.iaload, 1) := by decide +kernel
theorem d10_goBack_33 : decode c10_goBack 33 = .ok (.iadd, 1) := by decide +kernel
theorem d10_goBack_34 : decode c10_goBack 34 = .ok (.if_icmp .ge 165, 3) := by decide +kernel
theorem d10_goBack_37 : decode c10_goBack 37 = .ok (.aload_n 0, 1) := by decide +kernel
theorem d10_goBack_38 : decode c10_goBack 38 = .ok (.getfield 75, 3) := by decide +kernel
theorem d10_goBack_41 : decode c10_goBack 41 = .ok (.iload 4, 2) := by decide +kernel
theorem d10_goBack_43 : decode c10_goBack 43 = .ok (.iconst 0, 1) := by decide +kernel
theorem d10_goBack_44 : decode c10_goBack 44 = .ok (.iastore, 1) := by decide +kernel
theorem d10_goBack_45 : decode c10_goBack 45 = .ok (.iload_n 3, 1) := by decide +kernel
theorem d10_goBack_46 : decode c10_goBack 46 = .ok (.aload_n 0, 1) := by decide +kernel
theorem d10_goBack_47 : decode c10_goBack 47 = .ok (.getfield 26, 3) := by decide +kernel
theorem d10_goBack_50 : decode c10_goBack 50 = .ok (.iconst 1, 1) := by decide +kernel
theorem d10_goBack_51 : decode c10_goBack 51 = .ok (.isub, 1) := by decide +kernel
theorem d10_goBack_52 : decode c10_goBack 52 = .ok (.if_icmp .ne 21, 3) := by decide +kernel
theorem d10_goBack_55 : decode c10_goBack 55 = .ok (.aload_n 0, 1) := by decide +kernel
theorem d10_goBack_56 : decode c10_goBack 56 = .ok (.iload 4, 2) := by decide +kernel
theorem d10_goBack_58 : decode c10_goBack 58 = .ok (.aload_n 0, 1) := by decide +kernel
theorem d10_goBack_59 : decode c10_goBack 59 = .ok (.getfield 60, 3) := by decide +kernel
theorem d10_goBack_62 : decode c10_goBack 62 = .ok (.iload 4, 2) := by decide +kernel
theorem d10_goBack_64 : decode c10_goBack 64 = .ok (.iaload, 1) := by decide +kernel
theorem d10_goBack_65 : decode c10_goBack 65 = .ok (.iconst 0, 1) := by decide +kernel
theorem d10_goBack_66 : decode c10_goBack 66 = .ok (.iconst 0, 1) := by decide +kernel
theorem d10_goBack_67 : decode c10_goBack 67 = .ok (.invokevirtual 194, 3) := by decide +kernel
theorem d10_goBack_70 : decode c10_goBack 70 = .ok (.goto 123, 3) := by decide +kernel
theorem d10_goBack_73 : decode c10_goBack 73 = .ok (.sipush 400, 3) := by decide +kernel
theorem d10_goBack_76 : decode c10_goBack 76 = .ok (.iload_n 3, 1) := by decide +kernel
theorem d10_goBack_77 : decode c10_goBack 77 = .ok (.iconst 1, 1) := by decide +kernel
theorem d10_goBack_78 : decode c10_goBack 78 = .ok (.iadd, 1) := by decide +kernel
theorem d10_goBack_79 : decode c10_goBack 79 = .ok (.imul, 1) := by decide +kernel
theorem d10_goBack_80 : decode c10_goBack 80 = .ok (.istore 5, 2) := by decide +kernel
theorem d10_goBack_82 : decode c10_goBack 82 = .ok (.iload 5, 2) := by decide +kernel
theorem d10_goBack_84 : decode c10_goBack 84 = .ok (.istore 6, 2) := by decide +kernel
theorem d10_goBack_86 : decode c10_goBack 86 = .ok (.iload 6, 2) := by decide +kernel
theorem d10_goBack_88 : decode c10_goBack 88 = .ok (.iload 5, 2) := by decide +kernel
theorem d10_goBack_90 : decode c10_goBack 90 = .ok (.aload_n 0, 1) := by decide +kernel
theorem d10_goBack_91 : decode c10_goBack 91 = .ok (.getfield 63, 3) := by decide +kernel
theorem d10_goBack_94 : decode c10_goBack 94 = .ok (.iload_n 3, 1) := by decide +kernel
theorem d10_goBack_95 : decode c10_goBack 95 = .ok (.iconst 1, 1) := by decide +kernel
theorem d10_goBack_96 : decode c10_goBack 96 = .ok (.iadd, 1) := by decide +kernel
theorem d10_goBack_97 : decode c10_goBack 97 = .ok (.iaload, 1) := by decide +kernel
theorem d10_goBack_98 : decode c10_goBack 98 = .ok (.iadd, 1) := by decide +kernel
theorem d10_goBack_99 : decode c10_goBack 99 = .ok (.if_icmp .ge 94, 3) := by decide +kernel
theorem d10_goBack_102 : decode c10_goBack 102 = .ok (.aload_n 0, 1) := by decide +kernel
theorem d10_goBack_103 : decode c10_goBack 103 = .ok (.getfield 78, 3) := by decide +kernel
theorem d10_goBack_106 : decode c10_goBack 106 = .ok (.iload 6, 2) := by decide +kernel
theorem d10_goBack_108 : decode c10_goBack 108 = .ok (.baload, 1) := by decide +kernel
theorem d10_goBack_109 : decode c10_goBack 109 = .ok (.ifCond .eq 78, 3) := by decide +kernel
theorem d10_goBack_112 : decode c10_goBack 112 = .ok (.aload_n 0, 1) := by decide +kernel
theorem d10_goBack_113 : decode c10_goBack 113 = .ok (.iload 4, 2) := by decide +kernel
theorem d10_goBack_115 : decode c10_goBack 115 = .ok (.iload 6, 2) := by decide +kernel
theorem d10_goBack_117 : decode c10_goBack 117 = .ok (.invokevirtual 198, 3) := by decide +kernel
theorem d10_goBack_120 : decode c10_goBack 120 = .ok (.ifCond .ne 67, 3) := by decide +kernel
theorem d10_goBack_123 : decode c10_goBack 123 = .ok (.aload_n 0, 1) := by decide +kernel
theorem d10_goBack_124 : decode c10_goBack 124 = .ok (.getfield 60, 3) := by decide +kernel
theorem d10_goBack_127 : decode c10_goBack 127 = .ok (.iload 4, 2) := by decide +kernel
theorem d10_goBack_129 : decode c10_goBack 129 = .ok (.iaload, 1) := by decide +kernel
theorem d10_goBack_130 : decode c10_goBack 130 = .ok (.aload_n 0, 1) := by decide +kernel
theorem d10_goBack_131 : decode c10_goBack 131 = .ok (.iload 4, 2) := by decide +kernel
theorem d10_goBack_133 : decode c10_goBack 133 = .ok (.iload 6, 2) := by decide +kernel
theorem d10_goBack_135 : decode c10_goBack 135 = .ok (.invokevirtual 201, 3) := by decide +kernel
theorem d10_goBack_138 : decode c10_goBack 138 = .ok (.iadd, 1) := by decide +kernel
theorem d10_goBack_139 : decode c10_goBack 139 = .ok (.istore 7, 2) := by decide +kernel
theorem d10_goBack_141 : decode c10_goBack 141 = .ok (.iconst 0, 1) := by decide +kernel
theorem d10_goBack_142 : decode c10_goBack 142 = .ok (.istore 8, 2) := by decide +kernel
theorem d10_goBack_144 : decode c10_goBack 144 = .ok (.iload 8, 2) := by decide +kernel
theorem d10_goBack_146 : decode c10_goBack 146 = .ok (.aload_n 0, 1) := by decide +kernel
theorem d10_goBack_147 : decode c10_goBack 147 = .ok (.getfield 75, 3) := by decide +kernel
theorem d10_goBack_150 : decode c10_goBack 150 = .ok (.iload 6, 2) := by decide +kernel
theorem d10_goBack_152 : decode c10_goBack 152 = .ok (.iaload, 1) := by decide +kernel
theorem d10_goBack_153 : decode c10_goBack 153 = .ok (.if_icmp .ge 34, 3) := by decide +kernel
theorem d10_goBack_156 : decode c10_goBack 156 = .ok (.aload_n 0, 1) := by decide +kernel
theorem d10_goBack_157 : decode c10_goBack 157 = .ok (.iload 4, 2) := by decide +kernel
theorem d10_goBack_159 : decode c10_goBack 159 = .ok (.iload 7, 2) := by decide +kernel
theorem d10_goBack_161 : decode c10_goBack 161 = .ok (.aload_n 0, 1) := by decide +kernel
theorem d10_goBack_162 : decode c10_goBack 162 = .ok (.getfield 66, 3) := by decide +kernel
theorem d10_goBack_165 : decode c10_goBack 165 = .ok (.iconst 4, 1) := by decide +kernel
theorem d10_goBack_166 : decode c10_goBack 166 = .ok (.iload 6, 2) := by decide +kernel
theorem d10_goBack_168 : decode c10_goBack 168 = .ok (.imul, 1) := by decide +kernel
theorem d10_goBack_169 : decode c10_goBack 169 = .ok (.iload 8, 2) := by decide +kernel
theorem d10_goBack_171 : decode c10_goBack 171 = .ok (.iadd, 1) := by decide +kernel
theorem d10_goBack_172 : decode c10_goBack 172 = .ok (.iaload, 1) := by decide +kernel
theorem d10_goBack_173 : decode c10_goBack 173 = .ok (.iadd, 1) := by decide +kernel
theorem d10_goBack_174 : decode c10_goBack 174 = .ok (.iload 6, 2) := by decide +kernel
theorem d10_goBack_176 : decode c10_goBack 176 = .ok (.iload 8, 2) := by decide +kernel
theorem d10_goBack_178 : decode c10_goBack 178 = .ok (.invokevirtual 194, 3) := by decide +kernel
theorem d10_goBack_181 : decode c10_goBack 181 = .ok (.iinc 8 1, 3) := by decide +kernel
theorem d10_goBack_184 : decode c10_goBack 184 = .ok (.goto (-40), 3) := by decide +kernel
theorem d10_goBack_187 : decode c10_goBack 187 = .ok (.iinc 6 1, 3) := by decide +kernel
theorem d10_goBack_190 : decode c10_goBack 190 = .ok (.goto (-104), 3) := by decide +kernel
theorem d10_goBack_193 : decode c10_goBack 193 = .ok (.iinc 4 1, 3) := by decide +kernel
theorem d10_goBack_196 : decode c10_goBack 196 = .ok (.goto (-176), 3) := by decide +kernel
theorem d10_goBack_199 : decode c10_goBack 199 = .ok (.aload_n 0, 1) := by decide +kernel
theorem d10_goBack_200 : decode c10_goBack 200 = .ok (.iload_n 3, 1) := by decide +kernel
theorem d10_goBack_201 : decode c10_goBack 201 = .ok (.iload_n 1, 1) := by decide +kernel
theorem d10_goBack_202 : decode c10_goBack 202 = .ok (.invokevirtual 204, 3) := by decide +kernel
theorem d10_goBack_205 : decode c10_goBack 205 = .ok (.ifCond .ne 7, 3) := by decide +kernel
theorem d10_goBack_208 : decode c10_goBack 208 = .ok (.iload_n 2, 1) := by decide +kernel
theorem d10_goBack_209 : decode c10_goBack 209 = .ok (.ifCond .eq 7, 3) := by decide +kernel
theorem d10_goBack_212 : decode c10_goBack 212 = .ok (.iconst 1, 1) := by decide +kernel
theorem d10_goBack_213 : decode c10_goBack 213 = .ok (.goto 4, 3) := by decide +kernel
theorem d10_goBack_216 : decode c10_goBack 216 = .ok (.iconst 0, 1) := by decide +kernel
theorem d10_goBack_217 : decode c10_goBack 217 = .ok (.istore_n 2, 1) := by decide +kernel
theorem d10_goBack_218 : decode c10_goBack 218 = .ok (.iinc 3 (-1), 3) := by decide +kernel
theorem d10_goBack_221 : decode c10_goBack 221 = .ok (.goto (-212), 3) := by decide +kernel
theorem d10_goBack_224 : decode c10_goBack 224 = .ok (.iload_n 2, 1) := by decide +kernel
theorem d10_goBack_225 : decode c10_goBack 225 = .ok (.ifCond .ne 7, 3) := by decide +kernel
theorem d10_goBack_228 : decode c10_goBack 228 = .ok (.iconst 1, 1) := by decide +kernel
theorem d10_goBack_229 : decode c10_goBack 229 = .ok (.goto 4, 3) := by decide +kernel
theorem d10_goBack_232 : decode c10_goBack 232 = .ok (.iconst 0, 1) := by decide +kernel
theorem d10_goBack_233 : decode c10_goBack 233 = .ok (.ireturn, 1) := by decide +kernel
def t10_goBack (l : Launch) (Po : ri_O) : List ri_S := [i_con 1 0,
  i_is 2 2,
  i_al 3 0,
  i_get 4 10 7,
  i_con 5 1,
  i_bin 6 (fun x y => x - y),
  i_is 7 3,
  i_il 8 3,
  i_if 9 124 (fun x => x < 0),
  i_con 10 400,
  i_il 11 3,
  i_bin 12 (fun x y => x * y),
  i_is 13 4,
  i_il 14 4,
  i_con 15 400,
  i_il 16 3,
  i_bin 17 (fun x y => x * y),
  i_al 18 0,
  i_get 19 10 19,
  i_il 20 3,
  i_ald 21 0,
  i_bin 22 (fun x y => x + y),
  i_icmp 23 111 (fun x y => y ≤ x),
  i_al 24 0,
  i_get 25 10 23,
  i_il 26 4,
  i_con 27 0,
  i_ast 28 0 (fun x => x),
  i_il 29 3,
  i_al 30 0,
  i_get 31 10 7,
  i_con 32 1,
  i_bin 33 (fun x y => x - y),
  i_icmp 34 44 (fun x y => ¬ x = y),
  i_al 35 0,
  i_il 36 4,
  i_al 37 0,
  i_get 38 10 18,
  i_il 39 4,
  i_ald 40 0,
  i_con 41 0,
  i_con 42 0,
  i_callV 43 5 10 (ri_Ev l y10_addWay w10_addWay r10_addWay 0 0) 0 0 0 0,
  i_goto 109,
  i_con 45 400,
  i_il 46 3,
  i_con 47 1,
  i_bin 48 (fun x y => x + y),
  i_bin 49 (fun x y => x * y),
  i_is 50 5,
  i_il 51 5,
  i_is 52 6,
  i_il 53 6,
  i_il 54 5,
  i_al 55 0,
  i_get 56 10 19,
  i_il 57 3,
  i_con 58 1,
  i_bin 59 (fun x y => x + y),
  i_ald 60 0,
  i_bin 61 (fun x y => x + y),
  i_icmp 62 109 (fun x y => y ≤ x),
  i_al 63 0,
  i_get 64 10 24,
  i_il 65 6,
  i_ald 66 1,
  i_if 67 107 (fun x => x = 0),
  i_al 68 0,
  i_il 69 4,
  i_il 70 6,
  i_callV 71 3 10 (ri_Ev l y10_barsStep w10_barsStep r10_barsStep 0 0) 0 0 0 0,
  i_if 72 107 (fun x => ¬ x = 0),
  i_al 73 0,
  i_get 74 10 18,
  i_il 75 4,
  i_ald 76 0,
  i_al 77 0,
  i_il 78 4,
  i_il 79 6,
  i_callV 80 3 10 (ri_Ev l y10_costOfStep w10_costOfStep r10_costOfStep 0 0) 0 0 0 0,
  i_bin 81 (fun x y => x + y),
  i_is 82 7,
  i_con 83 0,
  i_is 84 8,
  i_il 85 8,
  i_al 86 0,
  i_get 87 10 23,
  i_il 88 6,
  i_ald 89 0,
  i_icmp 90 107 (fun x y => y ≤ x),
  i_al 91 0,
  i_il 92 4,
  i_il 93 7,
  i_al 94 0,
  i_get 95 10 20,
  i_con 96 4,
  i_il 97 6,
  i_bin 98 (fun x y => x * y),
  i_il 99 8,
  i_bin 100 (fun x y => x + y),
  i_ald 101 0,
  i_bin 102 (fun x y => x + y),
  i_il 103 6,
  i_il 104 8,
  i_callV 105 5 10 (ri_Ev l y10_addWay w10_addWay r10_addWay 0 0) 0 0 0 0,
  i_inc 106 8 1,
  i_goto 84,
  i_inc 108 6 1,
  i_goto 52,
  i_inc 110 4 1,
  i_goto 13,
  i_al 112 0,
  i_il 113 3,
  i_il 114 1,
  i_callV 115 3 10 (ri_Ev l y10_narrow w10_narrow r10_narrow 0 0) 0 0 0 0,
  i_if 116 118 (fun x => ¬ x = 0),
  i_il 117 2,
  i_if 118 120 (fun x => x = 0),
  i_con 119 1,
  i_goto 121,
  i_con 121 0,
  i_is 122 2,
  i_inc 123 3 (-1),
  i_goto 7,
  i_il 125 2,
  i_if 126 128 (fun x => ¬ x = 0),
  i_con 127 1,
  i_goto 129,
  i_con 129 0,
  i_zret Po 0 0]
set_option maxRecDepth 20000 in
set_option maxHeartbeats 4000000 in
theorem z10_goBack (l : Launch) (Po : ri_O) (p : Program) (e : Env) (s : State) (m : MethodId) (args : Array Value) (below : List Frame) (meth : Method) (c : Code) (D : va_G) (ka : Nat → ClassId) (sa : Nat → Nat) (base : Nat) (X : ri_X p s m args c c10_goBack 9 w10_goBack "ChoraleSearchModel" D ka sa base) (hret : meth.sig.returnType = (some .boolean)) (hlocks : meth.locks = false) (hname : meth.name = "goBack") : ri_clo (ri_W p l e r10_goBack s m args below meth c D ka sa base 9 (MQ below (ri_Qc D ka sa base Po) args s 0 0 (fun q => base ≤ q)) p10_goBack) (t10_goBack l Po) := by
  refine ri_clo_of ?_
  unfold t10_goBack
  exact ⟨s_iconst X d10_goBack_0 rfl rfl,
    s_istore_n X d10_goBack_1 rfl (by decide) rfl,
    s_aload_n X d10_goBack_2 rfl rfl,
    s_get X (ci := 10) (f := 7) rfl (fun w h => List.mem_cons_of_mem _ (uC_10 w h)) (by decide) (List.mem_cons_of_mem _ mgw_821) d10_goBack_3 rfl,
    s_iconst X d10_goBack_6 rfl rfl,
    s_isub X d10_goBack_7 rfl,
    s_istore_n X d10_goBack_8 rfl (by decide) rfl,
    s_iload_n X d10_goBack_9 rfl rfl,
    s_if_lt X d10_goBack_10 rfl rfl,
    s_sipush X d10_goBack_13 rfl rfl,
    s_iload_n X d10_goBack_16 rfl rfl,
    s_imul X d10_goBack_17 rfl,
    s_istore X d10_goBack_18 (by decide) rfl,
    s_iload X d10_goBack_20 rfl,
    s_sipush X d10_goBack_22 rfl rfl,
    s_iload_n X d10_goBack_25 rfl rfl,
    s_imul X d10_goBack_26 rfl,
    s_aload_n X d10_goBack_27 rfl rfl,
    s_get X (ci := 10) (f := 19) rfl (fun w h => List.mem_cons_of_mem _ (uC_10 w h)) (by decide) (List.mem_cons_of_mem _ mgw_833) d10_goBack_28 rfl,
    s_iload_n X d10_goBack_31 rfl rfl,
    s_iald X rfl d10_goBack_32 rfl,
    s_iadd X d10_goBack_33 rfl,
    s_icmp_ge X d10_goBack_34 rfl rfl,
    s_aload_n X d10_goBack_37 rfl rfl,
    s_get X (ci := 10) (f := 23) rfl (fun w h => List.mem_cons_of_mem _ (uC_10 w h)) (by decide) (List.mem_cons_of_mem _ mgw_837) d10_goBack_38 rfl,
    s_iload X d10_goBack_41 rfl,
    s_iconst X d10_goBack_43 rfl rfl,
    s_iast X rfl d10_goBack_44 rfl,
    s_iload_n X d10_goBack_45 rfl rfl,
    s_aload_n X d10_goBack_46 rfl rfl,
    s_get X (ci := 10) (f := 7) rfl (fun w h => List.mem_cons_of_mem _ (uC_10 w h)) (by decide) (List.mem_cons_of_mem _ mgw_821) d10_goBack_47 rfl,
    s_iconst X d10_goBack_50 rfl rfl,
    s_isub X d10_goBack_51 rfl,
    s_icmp_ne X d10_goBack_52 rfl rfl,
    s_aload_n X d10_goBack_55 rfl rfl,
    s_iload X d10_goBack_56 rfl,
    s_aload_n X d10_goBack_58 rfl rfl,
    s_get X (ci := 10) (f := 18) rfl (fun w h => List.mem_cons_of_mem _ (uC_10 w h)) (by decide) (List.mem_cons_of_mem _ mgw_832) d10_goBack_59 rfl,
    s_iload X d10_goBack_62 rfl,
    s_iald X rfl d10_goBack_64 rfl,
    s_iconst X d10_goBack_65 rfl rfl,
    s_iconst X d10_goBack_66 rfl rfl,
    s_callV ri_NW_ok X (na := 4) (ci := 10) rfl ⟨ri_cB X 4 mgw_1041 (List.mem_cons_of_mem _ mgw_12) (List.mem_cons_of_mem _ mgw_1038) (by decide +kernel) rfl rfl ⟨by decide, by decide⟩, X.2.2.2.2.1 _ (List.mem_cons_of_mem _ mgw_1040), X.2.2.2.2.1 _ (List.mem_cons_of_mem _ mgp_89)⟩ d10_goBack_67 rfl,
    s_goto X d10_goBack_70 rfl,
    s_sipush X d10_goBack_73 rfl rfl,
    s_iload_n X d10_goBack_76 rfl rfl,
    s_iconst X d10_goBack_77 rfl rfl,
    s_iadd X d10_goBack_78 rfl,
    s_imul X d10_goBack_79 rfl,
    s_istore X d10_goBack_80 (by decide) rfl,
    s_iload X d10_goBack_82 rfl,
    s_istore X d10_goBack_84 (by decide) rfl,
    s_iload X d10_goBack_86 rfl,
    s_iload X d10_goBack_88 rfl,
    s_aload_n X d10_goBack_90 rfl rfl,
    s_get X (ci := 10) (f := 19) rfl (fun w h => List.mem_cons_of_mem _ (uC_10 w h)) (by decide) (List.mem_cons_of_mem _ mgw_833) d10_goBack_91 rfl,
    s_iload_n X d10_goBack_94 rfl rfl,
    s_iconst X d10_goBack_95 rfl rfl,
    s_iadd X d10_goBack_96 rfl,
    s_iald X rfl d10_goBack_97 rfl,
    s_iadd X d10_goBack_98 rfl,
    s_icmp_ge X d10_goBack_99 rfl rfl,
    s_aload_n X d10_goBack_102 rfl rfl,
    s_get X (ci := 10) (f := 24) rfl (fun w h => List.mem_cons_of_mem _ (uC_10 w h)) (by decide) (List.mem_cons_of_mem _ mgw_838) d10_goBack_103 rfl,
    s_iload X d10_goBack_106 rfl,
    s_zald X rfl d10_goBack_108 rfl,
    s_if_eq X d10_goBack_109 rfl rfl,
    s_aload_n X d10_goBack_112 rfl rfl,
    s_iload X d10_goBack_113 rfl,
    s_iload X d10_goBack_115 rfl,
    s_callV ri_NW_ok X (na := 2) (ci := 10) rfl ⟨ri_cB X 2 mgw_1049 (List.mem_cons_of_mem _ mgw_12) (List.mem_cons_of_mem _ mgw_1046) (by decide +kernel) rfl rfl ⟨by decide, by decide⟩, X.2.2.2.2.1 _ (List.mem_cons_of_mem _ mgw_1048), X.2.2.2.2.1 _ (List.mem_cons_of_mem _ mgp_91)⟩ d10_goBack_117 rfl,
    s_if_ne X d10_goBack_120 rfl rfl,
    s_aload_n X d10_goBack_123 rfl rfl,
    s_get X (ci := 10) (f := 18) rfl (fun w h => List.mem_cons_of_mem _ (uC_10 w h)) (by decide) (List.mem_cons_of_mem _ mgw_832) d10_goBack_124 rfl,
    s_iload X d10_goBack_127 rfl,
    s_iald X rfl d10_goBack_129 rfl,
    s_aload_n X d10_goBack_130 rfl rfl,
    s_iload X d10_goBack_131 rfl,
    s_iload X d10_goBack_133 rfl,
    s_callV ri_NW_ok X (na := 2) (ci := 10) rfl ⟨ri_cB X 2 mgw_1065 (List.mem_cons_of_mem _ mgw_12) (List.mem_cons_of_mem _ mgw_1062) (by decide +kernel) rfl rfl ⟨by decide, by decide⟩, X.2.2.2.2.1 _ (List.mem_cons_of_mem _ mgw_1064), X.2.2.2.2.1 _ (List.mem_cons_of_mem _ mgp_92)⟩ d10_goBack_135 rfl,
    s_iadd X d10_goBack_138 rfl,
    s_istore X d10_goBack_139 (by decide) rfl,
    s_iconst X d10_goBack_141 rfl rfl,
    s_istore X d10_goBack_142 (by decide) rfl,
    s_iload X d10_goBack_144 rfl,
    s_aload_n X d10_goBack_146 rfl rfl,
    s_get X (ci := 10) (f := 23) rfl (fun w h => List.mem_cons_of_mem _ (uC_10 w h)) (by decide) (List.mem_cons_of_mem _ mgw_837) d10_goBack_147 rfl,
    s_iload X d10_goBack_150 rfl,
    s_iald X rfl d10_goBack_152 rfl,
    s_icmp_ge X d10_goBack_153 rfl rfl,
    s_aload_n X d10_goBack_156 rfl rfl,
    s_iload X d10_goBack_157 rfl,
    s_iload X d10_goBack_159 rfl,
    s_aload_n X d10_goBack_161 rfl rfl,
    s_get X (ci := 10) (f := 20) rfl (fun w h => List.mem_cons_of_mem _ (uC_10 w h)) (by decide) (List.mem_cons_of_mem _ mgw_834) d10_goBack_162 rfl,
    s_iconst X d10_goBack_165 rfl rfl,
    s_iload X d10_goBack_166 rfl,
    s_imul X d10_goBack_168 rfl,
    s_iload X d10_goBack_169 rfl,
    s_iadd X d10_goBack_171 rfl,
    s_iald X rfl d10_goBack_172 rfl,
    s_iadd X d10_goBack_173 rfl,
    s_iload X d10_goBack_174 rfl,
    s_iload X d10_goBack_176 rfl,
    s_callV ri_NW_ok X (na := 4) (ci := 10) rfl ⟨ri_cB X 4 mgw_1041 (List.mem_cons_of_mem _ mgw_12) (List.mem_cons_of_mem _ mgw_1038) (by decide +kernel) rfl rfl ⟨by decide, by decide⟩, X.2.2.2.2.1 _ (List.mem_cons_of_mem _ mgw_1040), X.2.2.2.2.1 _ (List.mem_cons_of_mem _ mgp_89)⟩ d10_goBack_178 rfl,
    s_iinc X d10_goBack_181 rfl (by decide) rfl,
    s_goto X d10_goBack_184 rfl,
    s_iinc X d10_goBack_187 rfl (by decide) rfl,
    s_goto X d10_goBack_190 rfl,
    s_iinc X d10_goBack_193 rfl (by decide) rfl,
    s_goto X d10_goBack_196 rfl,
    s_aload_n X d10_goBack_199 rfl rfl,
    s_iload_n X d10_goBack_200 rfl rfl,
    s_iload_n X d10_goBack_201 rfl rfl,
    s_callV ri_NW_ok X (na := 2) (ci := 10) rfl ⟨ri_cB X 2 mgw_1069 (List.mem_cons_of_mem _ mgw_12) (List.mem_cons_of_mem _ mgw_1066) (by decide +kernel) rfl rfl ⟨by decide, by decide⟩, X.2.2.2.2.1 _ (List.mem_cons_of_mem _ mgw_1068), X.2.2.2.2.1 _ (List.mem_cons_of_mem _ mgp_93)⟩ d10_goBack_202 rfl,
    s_if_ne X d10_goBack_205 rfl rfl,
    s_iload_n X d10_goBack_208 rfl rfl,
    s_if_eq X d10_goBack_209 rfl rfl,
    s_iconst X d10_goBack_212 rfl rfl,
    s_goto X d10_goBack_213 rfl,
    s_iconst X d10_goBack_216 rfl rfl,
    s_istore_n X d10_goBack_217 rfl (by decide) rfl,
    s_iinc X d10_goBack_218 rfl (by decide) rfl,
    s_goto X d10_goBack_221 rfl,
    s_iload_n X d10_goBack_224 rfl rfl,
    s_if_ne X d10_goBack_225 rfl rfl,
    s_iconst X d10_goBack_228 rfl rfl,
    s_goto X d10_goBack_229 rfl,
    s_iconst X d10_goBack_232 rfl rfl,
    s_zret X hret hlocks d10_goBack_233, trivial⟩
theorem d10_addWay_0 : decode c10_addWay 0 = .ok (.aload_n 0, 1) := by decide +kernel
theorem d10_addWay_1 : decode c10_addWay 1 = .ok (.getfield 75, 3) := by decide +kernel
theorem d10_addWay_4 : decode c10_addWay 4 = .ok (.iload_n 1, 1) := by decide +kernel
theorem d10_addWay_5 : decode c10_addWay 5 = .ok (.iaload, 1) := by decide +kernel
theorem d10_addWay_6 : decode c10_addWay 6 = .ok (.istore 5, 2) := by decide +kernel
theorem d10_addWay_8 : decode c10_addWay 8 = .ok (.iload 5, 2) := by decide +kernel
theorem d10_addWay_10 : decode c10_addWay 10 = .ok (.istore 6, 2) := by decide +kernel
theorem d10_addWay_12 : decode c10_addWay 12 = .ok (.iload 6, 2) := by decide +kernel
theorem d10_addWay_14 : decode c10_addWay 14 = .ok (.ifCond .le 28, 3) := by decide +kernel
theorem d10_addWay_17 : decode c10_addWay 17 = .ok (.aload_n 0, 1) := by decide +kernel
theorem d10_addWay_18 : decode c10_addWay 18 = .ok (.iconst 4, 1) := by decide +kernel
theorem d10_addWay_19 : decode c10_addWay 19 = .ok (.iload_n 1, 1) := by decide +kernel
theorem d10_addWay_20 : decode c10_addWay 20 = .ok (.imul, 1) := by decide +kernel
theorem d10_addWay_21 : decode c10_addWay 21 = .ok (.iload 6, 2) := by decide +kernel
theorem d10_addWay_23 : decode c10_addWay 23 = .ok (.iadd, 1) := by decide +kernel
theorem d10_addWay_24 : decode c10_addWay 24 = .ok (.iconst 1, 1) := by decide +kernel
theorem d10_addWay_25 : decode c10_addWay 25 = .ok (.isub, 1) := by decide +kernel
theorem d10_addWay_26 : decode c10_addWay 26 = .ok (.iload_n 2, 1) := by decide +kernel
theorem d10_addWay_27 : decode c10_addWay 27 = .ok (.iload_n 3, 1) := by decide +kernel
theorem d10_addWay_28 : decode c10_addWay 28 = .ok (.iload 4, 2) := by decide +kernel
theorem d10_addWay_30 : decode c10_addWay 30 = .ok (.invokevirtual 191, 3) := by decide +kernel
theorem d10_addWay_33 : decode c10_addWay 33 = .ok (.ifCond .eq 9, 3) := by decide +kernel
theorem d10_addWay_36 : decode c10_addWay 36 = .ok (.iinc 6 (-1), 3) := by decide +kernel
theorem d10_addWay_39 : decode c10_addWay 39 = .ok (.goto (-27), 3) := by decide +kernel
theorem d10_addWay_42 : decode c10_addWay 42 = .ok (.iload 6, 2) := by decide +kernel
theorem d10_addWay_44 : decode c10_addWay 44 = .ok (.iconst 4, 1) := by decide +kernel
theorem d10_addWay_45 : decode c10_addWay 45 = .ok (.if_icmp .ne 4, 3) := by decide +kernel
theorem d10_addWay_48 : decode c10_addWay 48 = .ok (.return_, 1) := by decide +kernel
theorem d10_addWay_49 : decode c10_addWay 49 = .ok (.iload 5, 2) := by decide +kernel
theorem d10_addWay_51 : decode c10_addWay 51 = .ok (.iconst 4, 1) := by decide +kernel
theorem d10_addWay_52 : decode c10_addWay 52 = .ok (.if_icmp .ge 8, 3) := by decide +kernel
theorem d10_addWay_55 : decode c10_addWay 55 = .ok (.iload 5, 2) := by decide +kernel
theorem d10_addWay_57 : decode c10_addWay 57 = .ok (.goto 4, 3) := by decide +kernel
theorem d10_addWay_60 : decode c10_addWay 60 = .ok (.iconst 3, 1) := by decide +kernel
theorem d10_addWay_61 : decode c10_addWay 61 = .ok (.istore 7, 2) := by decide +kernel
theorem d10_addWay_63 : decode c10_addWay 63 = .ok (.iload 7, 2) := by decide +kernel
theorem d10_addWay_65 : decode c10_addWay 65 = .ok (.istore 8, 2) := by decide +kernel
theorem d10_addWay_67 : decode c10_addWay 67 = .ok (.iload 8, 2) := by decide +kernel
theorem d10_addWay_69 : decode c10_addWay 69 = .ok (.iload 6, 2) := by decide +kernel
theorem d10_addWay_71 : decode c10_addWay 71 = .ok (.if_icmp .le 81, 3) := by decide +kernel
theorem d10_addWay_74 : decode c10_addWay 74 = .ok (.aload_n 0, 1) := by decide +kernel
theorem d10_addWay_75 : decode c10_addWay 75 = .ok (.getfield 66, 3) := by decide +kernel
theorem d10_addWay_78 : decode c10_addWay 78 = .ok (.iconst 4, 1) := by decide +kernel
theorem d10_addWay_79 : decode c10_addWay 79 = .ok (.iload_n 1, 1) := by decide +kernel
theorem d10_addWay_80 : decode c10_addWay 80 = .ok (.imul, 1) := by decide +kernel
theorem d10_addWay_81 : decode c10_addWay 81 = .ok (.iload 8, 2) := by decide +kernel
theorem d10_addWay_83 : decode c10_addWay 83 = .ok (.iadd, 1) := by decide +kernel
theorem d10_addWay_84 : decode c10_addWay 84 = .ok (.aload_n 0, 1) := by decide +kernel
theorem d10_addWay_85 : decode c10_addWay 85 = .ok (.getfield 66, 3) := by decide +kernel
theorem d10_addWay_88 : decode c10_addWay 88 = .ok (.iconst 4, 1) := by decide +kernel
theorem d10_addWay_89 : decode c10_addWay 89 = .ok (.iload_n 1, 1) := by decide +kernel
theorem d10_addWay_90 : decode c10_addWay 90 = .ok (.imul, 1) := by decide +kernel
theorem d10_addWay_91 : decode c10_addWay 91 = .ok (.iload 8, 2) := by decide +kernel
theorem d10_addWay_93 : decode c10_addWay 93 = .ok (.iadd, 1) := by decide +kernel
theorem d10_addWay_94 : decode c10_addWay 94 = .ok (.iconst 1, 1) := by decide +kernel
theorem d10_addWay_95 : decode c10_addWay 95 = .ok (.isub, 1) := by decide +kernel
theorem d10_addWay_96 : decode c10_addWay 96 = .ok (.iaload, 1) := by decide +kernel
theorem d10_addWay_97 : decode c10_addWay 97 = .ok (.iastore, 1) := by decide +kernel
theorem d10_addWay_98 : decode c10_addWay 98 = .ok (.aload_n 0, 1) := by decide +kernel
theorem d10_addWay_99 : decode c10_addWay 99 = .ok (.getfield 69, 3) := by decide +kernel
theorem d10_addWay_102 : decode c10_addWay 102 = .ok (.iconst 4, 1) := by decide +kernel
theorem d10_addWay_103 : decode c10_addWay 103 = .ok (.iload_n 1, 1) := by decide +kernel
theorem d10_addWay_104 : decode c10_addWay 104 = .ok (.imul, 1) := by decide +kernel
theorem d10_addWay_105 : decode c10_addWay 105 = .ok (.iload 8, 2) := by decide +kernel
theorem d10_addWay_107 : decode c10_addWay 107 = .ok (.iadd, 1) := by decide +kernel
theorem d10_addWay_108 : decode c10_addWay 108 = .ok (.aload_n 0, 1) := by decide +kernel
theorem d10_addWay_109 : decode c10_addWay 109 = .ok (.getfield 69, 3) := by decide +kernel
theorem d10_addWay_112 : decode c10_addWay 112 = .ok (.iconst 4, 1) := by decide +kernel
theorem d10_addWay_113 : decode c10_addWay 113 = .ok (.iload_n 1, 1) := by decide +kernel
theorem d10_addWay_114 : decode c10_addWay 114 = .ok (.imul, 1) := by decide +kernel
theorem d10_addWay_115 : decode c10_addWay 115 = .ok (.iload 8, 2) := by decide +kernel
theorem d10_addWay_117 : decode c10_addWay 117 = .ok (.iadd, 1) := by decide +kernel
theorem d10_addWay_118 : decode c10_addWay 118 = .ok (.iconst 1, 1) := by decide +kernel
theorem d10_addWay_119 : decode c10_addWay 119 = .ok (.isub, 1) := by decide +kernel
theorem d10_addWay_120 : decode c10_addWay 120 = .ok (.iaload, 1) := by decide +kernel
theorem d10_addWay_121 : decode c10_addWay 121 = .ok (.iastore, 1) := by decide +kernel
theorem d10_addWay_122 : decode c10_addWay 122 = .ok (.aload_n 0, 1) := by decide +kernel
theorem d10_addWay_123 : decode c10_addWay 123 = .ok (.getfield 72, 3) := by decide +kernel
theorem d10_addWay_126 : decode c10_addWay 126 = .ok (.iconst 4, 1) := by decide +kernel
theorem d10_addWay_127 : decode c10_addWay 127 = .ok (.iload_n 1, 1) := by decide +kernel
theorem d10_addWay_128 : decode c10_addWay 128 = .ok (.imul, 1) := by decide +kernel
theorem d10_addWay_129 : decode c10_addWay 129 = .ok (.iload 8, 2) := by decide +kernel
theorem d10_addWay_131 : decode c10_addWay 131 = .ok (.iadd, 1) := by decide +kernel
theorem d10_addWay_132 : decode c10_addWay 132 = .ok (.aload_n 0, 1) := by decide +kernel
theorem d10_addWay_133 : decode c10_addWay 133 = .ok (.getfield 72, 3) := by decide +kernel
theorem d10_addWay_136 : decode c10_addWay 136 = .ok (.iconst 4, 1) := by decide +kernel
theorem d10_addWay_137 : decode c10_addWay 137 = .ok (.iload_n 1, 1) := by decide +kernel
theorem d10_addWay_138 : decode c10_addWay 138 = .ok (.imul, 1) := by decide +kernel
theorem d10_addWay_139 : decode c10_addWay 139 = .ok (.iload 8, 2) := by decide +kernel
theorem d10_addWay_141 : decode c10_addWay 141 = .ok (.iadd, 1) := by decide +kernel
theorem d10_addWay_142 : decode c10_addWay 142 = .ok (.iconst 1, 1) := by decide +kernel
theorem d10_addWay_143 : decode c10_addWay 143 = .ok (.isub, 1) := by decide +kernel
theorem d10_addWay_144 : decode c10_addWay 144 = .ok (.iaload, 1) := by decide +kernel
theorem d10_addWay_145 : decode c10_addWay 145 = .ok (.iastore, 1) := by decide +kernel
theorem d10_addWay_146 : decode c10_addWay 146 = .ok (.iinc 8 (-1), 3) := by decide +kernel
theorem d10_addWay_149 : decode c10_addWay 149 = .ok (.goto (-82), 3) := by decide +kernel
theorem d10_addWay_152 : decode c10_addWay 152 = .ok (.aload_n 0, 1) := by decide +kernel
theorem d10_addWay_153 : decode c10_addWay 153 = .ok (.getfield 66, 3) := by decide +kernel
theorem d10_addWay_156 : decode c10_addWay 156 = .ok (.iconst 4, 1) := by decide +kernel
theorem d10_addWay_157 : decode c10_addWay 157 = .ok (.iload_n 1, 1) := by decide +kernel
theorem d10_addWay_158 : decode c10_addWay 158 = .ok (.imul, 1) := by decide +kernel
theorem d10_addWay_159 : decode c10_addWay 159 = .ok (.iload 6, 2) := by decide +kernel
theorem d10_addWay_161 : decode c10_addWay 161 = .ok (.iadd, 1) := by decide +kernel
theorem d10_addWay_162 : decode c10_addWay 162 = .ok (.iload_n 2, 1) := by decide +kernel
theorem d10_addWay_163 : decode c10_addWay 163 = .ok (.iastore, 1) := by decide +kernel
theorem d10_addWay_164 : decode c10_addWay 164 = .ok (.aload_n 0, 1) := by decide +kernel
theorem d10_addWay_165 : decode c10_addWay 165 = .ok (.getfield 69, 3) := by decide +kernel
theorem d10_addWay_168 : decode c10_addWay 168 = .ok (.iconst 4, 1) := by decide +kernel
theorem d10_addWay_169 : decode c10_addWay 169 = .ok (.iload_n 1, 1) := by decide +kernel
theorem d10_addWay_170 : decode c10_addWay 170 = .ok (.imul, 1) := by decide +kernel
theorem d10_addWay_171 : decode c10_addWay 171 = .ok (.iload 6, 2) := by decide +kernel
theorem d10_addWay_173 : decode c10_addWay 173 = .ok (.iadd, 1) := by decide +kernel
theorem d10_addWay_174 : decode c10_addWay 174 = .ok (.iload_n 3, 1) := by decide +kernel
theorem d10_addWay_175 : decode c10_addWay 175 = .ok (.iastore, 1) := by decide +kernel
theorem d10_addWay_176 : decode c10_addWay 176 = .ok (.aload_n 0, 1) := by decide +kernel
theorem d10_addWay_177 : decode c10_addWay 177 = .ok (.getfield 72, 3) := by decide +kernel
theorem d10_addWay_180 : decode c10_addWay 180 = .ok (.iconst 4, 1) := by decide +kernel
theorem d10_addWay_181 : decode c10_addWay 181 = .ok (.iload_n 1, 1) := by decide +kernel
theorem d10_addWay_182 : decode c10_addWay 182 = .ok (.imul, 1) := by decide +kernel
theorem d10_addWay_183 : decode c10_addWay 183 = .ok (.iload 6, 2) := by decide +kernel
theorem d10_addWay_185 : decode c10_addWay 185 = .ok (.iadd, 1) := by decide +kernel
theorem d10_addWay_186 : decode c10_addWay 186 = .ok (.iload 4, 2) := by decide +kernel
theorem d10_addWay_188 : decode c10_addWay 188 = .ok (.iastore, 1) := by decide +kernel
theorem d10_addWay_189 : decode c10_addWay 189 = .ok (.aload_n 0, 1) := by decide +kernel
theorem d10_addWay_190 : decode c10_addWay 190 = .ok (.getfield 75, 3) := by decide +kernel
theorem d10_addWay_193 : decode c10_addWay 193 = .ok (.iload_n 1, 1) := by decide +kernel
theorem d10_addWay_194 : decode c10_addWay 194 = .ok (.iload 5, 2) := by decide +kernel
theorem d10_addWay_196 : decode c10_addWay 196 = .ok (.iconst 4, 1) := by decide +kernel
theorem d10_addWay_197 : decode c10_addWay 197 = .ok (.if_icmp .ge 10, 3) := by decide +kernel
theorem d10_addWay_200 : decode c10_addWay 200 = .ok (.iload 5, 2) := by decide +kernel
theorem d10_addWay_202 : decode c10_addWay 202 = .ok (.iconst 1, 1) := by decide +kernel
theorem d10_addWay_203 : decode c10_addWay 203 = .ok (.iadd, 1) := by decide +kernel
theorem d10_addWay_204 : decode c10_addWay 204 = .ok (.goto 4, 3) := by decide +kernel
theorem d10_addWay_207 : decode c10_addWay 207 = .ok (.iconst 4, 1) := by decide +kernel
theorem d10_addWay_208 : decode c10_addWay 208 = .ok (.iastore, 1) := by decide +kernel
theorem d10_addWay_209 : decode c10_addWay 209 = .ok (.return_, 1) := by decide +kernel
def t10_addWay (l : Launch) (Po : ri_O) : List ri_S := [i_al 1 0,
  i_get 2 10 23,
  i_il 3 1,
  i_ald 4 0,
  i_is 5 5,
  i_il 6 5,
  i_is 7 6,
  i_il 8 6,
  i_if 9 24 (fun x => x ≤ 0),
  i_al 10 0,
  i_con 11 4,
  i_il 12 1,
  i_bin 13 (fun x y => x * y),
  i_il 14 6,
  i_bin 15 (fun x y => x + y),
  i_con 16 1,
  i_bin 17 (fun x y => x - y),
  i_il 18 2,
  i_il 19 3,
  i_il 20 4,
  i_callV 21 5 10 (ri_Ev l y10_isBehind w10_isBehind r10_isBehind 0 0) 0 0 0 0,
  i_if 22 24 (fun x => x = 0),
  i_inc 23 6 (-1),
  i_goto 7,
  i_il 25 6,
  i_con 26 4,
  i_icmp 27 28 (fun x y => ¬ x = y),
  i_vret Po 0 0,
  i_il 29 5,
  i_con 30 4,
  i_icmp 31 33 (fun x y => y ≤ x),
  i_il 32 5,
  i_goto 34,
  i_con 34 3,
  i_is 35 7,
  i_il 36 7,
  i_is 37 8,
  i_il 38 8,
  i_il 39 6,
  i_icmp 40 96 (fun x y => x ≤ y),
  i_al 41 0,
  i_get 42 10 20,
  i_con 43 4,
  i_il 44 1,
  i_bin 45 (fun x y => x * y),
  i_il 46 8,
  i_bin 47 (fun x y => x + y),
  i_al 48 0,
  i_get 49 10 20,
  i_con 50 4,
  i_il 51 1,
  i_bin 52 (fun x y => x * y),
  i_il 53 8,
  i_bin 54 (fun x y => x + y),
  i_con 55 1,
  i_bin 56 (fun x y => x - y),
  i_ald 57 0,
  i_ast 58 0 (fun x => x),
  i_al 59 0,
  i_get 60 10 21,
  i_con 61 4,
  i_il 62 1,
  i_bin 63 (fun x y => x * y),
  i_il 64 8,
  i_bin 65 (fun x y => x + y),
  i_al 66 0,
  i_get 67 10 21,
  i_con 68 4,
  i_il 69 1,
  i_bin 70 (fun x y => x * y),
  i_il 71 8,
  i_bin 72 (fun x y => x + y),
  i_con 73 1,
  i_bin 74 (fun x y => x - y),
  i_ald 75 0,
  i_ast 76 0 (fun x => x),
  i_al 77 0,
  i_get 78 10 22,
  i_con 79 4,
  i_il 80 1,
  i_bin 81 (fun x y => x * y),
  i_il 82 8,
  i_bin 83 (fun x y => x + y),
  i_al 84 0,
  i_get 85 10 22,
  i_con 86 4,
  i_il 87 1,
  i_bin 88 (fun x y => x * y),
  i_il 89 8,
  i_bin 90 (fun x y => x + y),
  i_con 91 1,
  i_bin 92 (fun x y => x - y),
  i_ald 93 0,
  i_ast 94 0 (fun x => x),
  i_inc 95 8 (-1),
  i_goto 37,
  i_al 97 0,
  i_get 98 10 20,
  i_con 99 4,
  i_il 100 1,
  i_bin 101 (fun x y => x * y),
  i_il 102 6,
  i_bin 103 (fun x y => x + y),
  i_il 104 2,
  i_ast 105 0 (fun x => x),
  i_al 106 0,
  i_get 107 10 21,
  i_con 108 4,
  i_il 109 1,
  i_bin 110 (fun x y => x * y),
  i_il 111 6,
  i_bin 112 (fun x y => x + y),
  i_il 113 3,
  i_ast 114 0 (fun x => x),
  i_al 115 0,
  i_get 116 10 22,
  i_con 117 4,
  i_il 118 1,
  i_bin 119 (fun x y => x * y),
  i_il 120 6,
  i_bin 121 (fun x y => x + y),
  i_il 122 4,
  i_ast 123 0 (fun x => x),
  i_al 124 0,
  i_get 125 10 23,
  i_il 126 1,
  i_il 127 5,
  i_con 128 4,
  i_icmp 129 133 (fun x y => y ≤ x),
  i_il 130 5,
  i_con 131 1,
  i_bin 132 (fun x y => x + y),
  i_goto 134,
  i_con 134 4,
  i_ast 135 0 (fun x => x),
  i_vret Po 0 0]
set_option maxRecDepth 20000 in
set_option maxHeartbeats 4000000 in
theorem z10_addWay (l : Launch) (Po : ri_O) (p : Program) (e : Env) (s : State) (m : MethodId) (args : Array Value) (below : List Frame) (meth : Method) (c : Code) (D : va_G) (ka : Nat → ClassId) (sa : Nat → Nat) (base : Nat) (X : ri_X p s m args c c10_addWay 9 w10_addWay "ChoraleSearchModel" D ka sa base) (hret : meth.sig.returnType = none) (hlocks : meth.locks = false) (hname : meth.name = "addWay") : ri_clo (ri_W p l e r10_addWay s m args below meth c D ka sa base 9 (MQ below (ri_Qc D ka sa base Po) args s 0 0 (fun q => base ≤ q)) p10_addWay) (t10_addWay l Po) := by
  refine ri_clo_of ?_
  unfold t10_addWay
  exact ⟨s_aload_n X d10_addWay_0 rfl rfl,
    s_get X (ci := 10) (f := 23) rfl (fun w h => List.mem_cons_of_mem _ (uC_10 w h)) (by decide) (List.mem_cons_of_mem _ mgw_837) d10_addWay_1 rfl,
    s_iload_n X d10_addWay_4 rfl rfl,
    s_iald X rfl d10_addWay_5 rfl,
    s_istore X d10_addWay_6 (by decide) rfl,
    s_iload X d10_addWay_8 rfl,
    s_istore X d10_addWay_10 (by decide) rfl,
    s_iload X d10_addWay_12 rfl,
    s_if_le X d10_addWay_14 rfl rfl,
    s_aload_n X d10_addWay_17 rfl rfl,
    s_iconst X d10_addWay_18 rfl rfl,
    s_iload_n X d10_addWay_19 rfl rfl,
    s_imul X d10_addWay_20 rfl,
    s_iload X d10_addWay_21 rfl,
    s_iadd X d10_addWay_23 rfl,
    s_iconst X d10_addWay_24 rfl rfl,
    s_isub X d10_addWay_25 rfl,
    s_iload_n X d10_addWay_26 rfl rfl,
    s_iload_n X d10_addWay_27 rfl rfl,
    s_iload X d10_addWay_28 rfl,
    s_callV ri_NW_ok X (na := 4) (ci := 10) rfl ⟨ri_cB X 4 mgw_1045 (List.mem_cons_of_mem _ mgw_12) (List.mem_cons_of_mem _ mgw_1042) (by decide +kernel) rfl rfl ⟨by decide, by decide⟩, X.2.2.2.2.1 _ (List.mem_cons_of_mem _ mgw_1044), X.2.2.2.2.1 _ (List.mem_cons_of_mem _ mgp_90)⟩ d10_addWay_30 rfl,
    s_if_eq X d10_addWay_33 rfl rfl,
    s_iinc X d10_addWay_36 rfl (by decide) rfl,
    s_goto X d10_addWay_39 rfl,
    s_iload X d10_addWay_42 rfl,
    s_iconst X d10_addWay_44 rfl rfl,
    s_icmp_ne X d10_addWay_45 rfl rfl,
    s_vret X hret hlocks d10_addWay_48,
    s_iload X d10_addWay_49 rfl,
    s_iconst X d10_addWay_51 rfl rfl,
    s_icmp_ge X d10_addWay_52 rfl rfl,
    s_iload X d10_addWay_55 rfl,
    s_goto X d10_addWay_57 rfl,
    s_iconst X d10_addWay_60 rfl rfl,
    s_istore X d10_addWay_61 (by decide) rfl,
    s_iload X d10_addWay_63 rfl,
    s_istore X d10_addWay_65 (by decide) rfl,
    s_iload X d10_addWay_67 rfl,
    s_iload X d10_addWay_69 rfl,
    s_icmp_le X d10_addWay_71 rfl rfl,
    s_aload_n X d10_addWay_74 rfl rfl,
    s_get X (ci := 10) (f := 20) rfl (fun w h => List.mem_cons_of_mem _ (uC_10 w h)) (by decide) (List.mem_cons_of_mem _ mgw_834) d10_addWay_75 rfl,
    s_iconst X d10_addWay_78 rfl rfl,
    s_iload_n X d10_addWay_79 rfl rfl,
    s_imul X d10_addWay_80 rfl,
    s_iload X d10_addWay_81 rfl,
    s_iadd X d10_addWay_83 rfl,
    s_aload_n X d10_addWay_84 rfl rfl,
    s_get X (ci := 10) (f := 20) rfl (fun w h => List.mem_cons_of_mem _ (uC_10 w h)) (by decide) (List.mem_cons_of_mem _ mgw_834) d10_addWay_85 rfl,
    s_iconst X d10_addWay_88 rfl rfl,
    s_iload_n X d10_addWay_89 rfl rfl,
    s_imul X d10_addWay_90 rfl,
    s_iload X d10_addWay_91 rfl,
    s_iadd X d10_addWay_93 rfl,
    s_iconst X d10_addWay_94 rfl rfl,
    s_isub X d10_addWay_95 rfl,
    s_iald X rfl d10_addWay_96 rfl,
    s_iast X rfl d10_addWay_97 rfl,
    s_aload_n X d10_addWay_98 rfl rfl,
    s_get X (ci := 10) (f := 21) rfl (fun w h => List.mem_cons_of_mem _ (uC_10 w h)) (by decide) (List.mem_cons_of_mem _ mgw_835) d10_addWay_99 rfl,
    s_iconst X d10_addWay_102 rfl rfl,
    s_iload_n X d10_addWay_103 rfl rfl,
    s_imul X d10_addWay_104 rfl,
    s_iload X d10_addWay_105 rfl,
    s_iadd X d10_addWay_107 rfl,
    s_aload_n X d10_addWay_108 rfl rfl,
    s_get X (ci := 10) (f := 21) rfl (fun w h => List.mem_cons_of_mem _ (uC_10 w h)) (by decide) (List.mem_cons_of_mem _ mgw_835) d10_addWay_109 rfl,
    s_iconst X d10_addWay_112 rfl rfl,
    s_iload_n X d10_addWay_113 rfl rfl,
    s_imul X d10_addWay_114 rfl,
    s_iload X d10_addWay_115 rfl,
    s_iadd X d10_addWay_117 rfl,
    s_iconst X d10_addWay_118 rfl rfl,
    s_isub X d10_addWay_119 rfl,
    s_iald X rfl d10_addWay_120 rfl,
    s_iast X rfl d10_addWay_121 rfl,
    s_aload_n X d10_addWay_122 rfl rfl,
    s_get X (ci := 10) (f := 22) rfl (fun w h => List.mem_cons_of_mem _ (uC_10 w h)) (by decide) (List.mem_cons_of_mem _ mgw_836) d10_addWay_123 rfl,
    s_iconst X d10_addWay_126 rfl rfl,
    s_iload_n X d10_addWay_127 rfl rfl,
    s_imul X d10_addWay_128 rfl,
    s_iload X d10_addWay_129 rfl,
    s_iadd X d10_addWay_131 rfl,
    s_aload_n X d10_addWay_132 rfl rfl,
    s_get X (ci := 10) (f := 22) rfl (fun w h => List.mem_cons_of_mem _ (uC_10 w h)) (by decide) (List.mem_cons_of_mem _ mgw_836) d10_addWay_133 rfl,
    s_iconst X d10_addWay_136 rfl rfl,
    s_iload_n X d10_addWay_137 rfl rfl,
    s_imul X d10_addWay_138 rfl,
    s_iload X d10_addWay_139 rfl,
    s_iadd X d10_addWay_141 rfl,
    s_iconst X d10_addWay_142 rfl rfl,
    s_isub X d10_addWay_143 rfl,
    s_iald X rfl d10_addWay_144 rfl,
    s_iast X rfl d10_addWay_145 rfl,
    s_iinc X d10_addWay_146 rfl (by decide) rfl,
    s_goto X d10_addWay_149 rfl,
    s_aload_n X d10_addWay_152 rfl rfl,
    s_get X (ci := 10) (f := 20) rfl (fun w h => List.mem_cons_of_mem _ (uC_10 w h)) (by decide) (List.mem_cons_of_mem _ mgw_834) d10_addWay_153 rfl,
    s_iconst X d10_addWay_156 rfl rfl,
    s_iload_n X d10_addWay_157 rfl rfl,
    s_imul X d10_addWay_158 rfl,
    s_iload X d10_addWay_159 rfl,
    s_iadd X d10_addWay_161 rfl,
    s_iload_n X d10_addWay_162 rfl rfl,
    s_iast X rfl d10_addWay_163 rfl,
    s_aload_n X d10_addWay_164 rfl rfl,
    s_get X (ci := 10) (f := 21) rfl (fun w h => List.mem_cons_of_mem _ (uC_10 w h)) (by decide) (List.mem_cons_of_mem _ mgw_835) d10_addWay_165 rfl,
    s_iconst X d10_addWay_168 rfl rfl,
    s_iload_n X d10_addWay_169 rfl rfl,
    s_imul X d10_addWay_170 rfl,
    s_iload X d10_addWay_171 rfl,
    s_iadd X d10_addWay_173 rfl,
    s_iload_n X d10_addWay_174 rfl rfl,
    s_iast X rfl d10_addWay_175 rfl,
    s_aload_n X d10_addWay_176 rfl rfl,
    s_get X (ci := 10) (f := 22) rfl (fun w h => List.mem_cons_of_mem _ (uC_10 w h)) (by decide) (List.mem_cons_of_mem _ mgw_836) d10_addWay_177 rfl,
    s_iconst X d10_addWay_180 rfl rfl,
    s_iload_n X d10_addWay_181 rfl rfl,
    s_imul X d10_addWay_182 rfl,
    s_iload X d10_addWay_183 rfl,
    s_iadd X d10_addWay_185 rfl,
    s_iload X d10_addWay_186 rfl,
    s_iast X rfl d10_addWay_188 rfl,
    s_aload_n X d10_addWay_189 rfl rfl,
    s_get X (ci := 10) (f := 23) rfl (fun w h => List.mem_cons_of_mem _ (uC_10 w h)) (by decide) (List.mem_cons_of_mem _ mgw_837) d10_addWay_190 rfl,
    s_iload_n X d10_addWay_193 rfl rfl,
    s_iload X d10_addWay_194 rfl,
    s_iconst X d10_addWay_196 rfl rfl,
    s_icmp_ge X d10_addWay_197 rfl rfl,
    s_iload X d10_addWay_200 rfl,
    s_iconst X d10_addWay_202 rfl rfl,
    s_iadd X d10_addWay_203 rfl,
    s_goto X d10_addWay_204 rfl,
    s_iconst X d10_addWay_207 rfl rfl,
    s_iast X rfl d10_addWay_208 rfl,
    s_vret X hret hlocks d10_addWay_209, trivial⟩
theorem d10_isBehind_0 : decode c10_isBehind 0 = .ok (.aload_n 0, 1) := by decide +kernel
theorem d10_isBehind_1 : decode c10_isBehind 1 = .ok (.getfield 66, 3) := by decide +kernel
theorem d10_isBehind_4 : decode c10_isBehind 4 = .ok (.iload_n 1, 1) := by decide +kernel
theorem d10_isBehind_5 : decode c10_isBehind 5 = .ok (.iaload, 1) := by decide +kernel
theorem d10_isBehind_6 : decode c10_isBehind 6 = .ok (.iload_n 2, 1) := by decide +kernel
theorem d10_isBehind_7 : decode c10_isBehind 7 = .ok (.if_icmp .eq 19, 3) := by decide +kernel
theorem d10_isBehind_10 : decode c10_isBehind 10 = .ok (.aload_n 0, 1) := by decide +kernel
theorem d10_isBehind_11 : decode c10_isBehind 11 = .ok (.getfield 66, 3) := by decide +kernel
theorem d10_isBehind_14 : decode c10_isBehind 14 = .ok (.iload_n 1, 1) := by decide +kernel
theorem d10_isBehind_15 : decode c10_isBehind 15 = .ok (.iaload, 1) := by decide +kernel
theorem d10_isBehind_16 : decode c10_isBehind 16 = .ok (.iload_n 2, 1) := by decide +kernel
theorem d10_isBehind_17 : decode c10_isBehind 17 = .ok (.if_icmp .le 7, 3) := by decide +kernel
theorem d10_isBehind_20 : decode c10_isBehind 20 = .ok (.iconst 1, 1) := by decide +kernel
theorem d10_isBehind_21 : decode c10_isBehind 21 = .ok (.goto 4, 3) := by decide +kernel
theorem d10_isBehind_24 : decode c10_isBehind 24 = .ok (.iconst 0, 1) := by decide +kernel
theorem d10_isBehind_25 : decode c10_isBehind 25 = .ok (.ireturn, 1) := by decide +kernel
theorem d10_isBehind_26 : decode c10_isBehind 26 = .ok (.aload_n 0, 1) := by decide +kernel
theorem d10_isBehind_27 : decode c10_isBehind 27 = .ok (.getfield 69, 3) := by decide +kernel
theorem d10_isBehind_30 : decode c10_isBehind 30 = .ok (.iload_n 1, 1) := by decide +kernel
theorem d10_isBehind_31 : decode c10_isBehind 31 = .ok (.iaload, 1) := by decide +kernel
theorem d10_isBehind_32 : decode c10_isBehind 32 = .ok (.iload_n 3, 1) := by decide +kernel
theorem d10_isBehind_33 : decode c10_isBehind 33 = .ok (.if_icmp .eq 21, 3) := by decide +kernel
theorem d10_isBehind_36 : decode c10_isBehind 36 = .ok (.aload_n 0, 1) := by decide +kernel
theorem d10_isBehind_37 : decode c10_isBehind 37 = .ok (.getfield 69, 3) := by decide +kernel
theorem d10_isBehind_40 : decode c10_isBehind 40 = .ok (.iload_n 1, 1) := by decide +kernel
theorem d10_isBehind_41 : decode c10_isBehind 41 = .ok (.iaload, 1) := by decide +kernel
theorem d10_isBehind_42 : decode c10_isBehind 42 = .ok (.iload_n 3, 1) := by decide +kernel
theorem d10_isBehind_43 : decode c10_isBehind 43 = .ok (.if_icmp .le 7, 3) := by decide +kernel
theorem d10_isBehind_46 : decode c10_isBehind 46 = .ok (.iconst 1, 1) := by decide +kernel
theorem d10_isBehind_47 : decode c10_isBehind 47 = .ok (.goto 23, 3) := by decide +kernel
theorem d10_isBehind_50 : decode c10_isBehind 50 = .ok (.iconst 0, 1) := by decide +kernel
theorem d10_isBehind_51 : decode c10_isBehind 51 = .ok (.goto 19, 3) := by decide +kernel
theorem d10_isBehind_54 : decode c10_isBehind 54 = .ok (.aload_n 0, 1) := by decide +kernel
theorem d10_isBehind_55 : decode c10_isBehind 55 = .ok (.getfield 72, 3) := by decide +kernel
theorem d10_isBehind_58 : decode c10_isBehind 58 = .ok (.iload_n 1, 1) := by decide +kernel
theorem d10_isBehind_59 : decode c10_isBehind 59 = .ok (.iaload, 1) := by decide +kernel
theorem d10_isBehind_60 : decode c10_isBehind 60 = .ok (.iload 4, 2) := by decide +kernel
theorem d10_isBehind_62 : decode c10_isBehind 62 = .ok (.if_icmp .le 7, 3) := by decide +kernel
theorem d10_isBehind_65 : decode c10_isBehind 65 = .ok (.iconst 1, 1) := by decide +kernel
theorem d10_isBehind_66 : decode c10_isBehind 66 = .ok (.goto 4, 3) := by decide +kernel
theorem d10_isBehind_69 : decode c10_isBehind 69 = .ok (.iconst 0, 1) := by decide +kernel
theorem d10_isBehind_70 : decode c10_isBehind 70 = .ok (.ireturn, 1) := by decide +kernel
def t10_isBehind (l : Launch) (Po : ri_O) : List ri_S := [i_al 1 0,
  i_get 2 10 20,
  i_il 3 1,
  i_ald 4 0,
  i_il 5 2,
  i_icmp 6 16 (fun x y => x = y),
  i_al 7 0,
  i_get 8 10 20,
  i_il 9 1,
  i_ald 10 0,
  i_il 11 2,
  i_icmp 12 14 (fun x y => x ≤ y),
  i_con 13 1,
  i_goto 15,
  i_con 15 0,
  i_zret Po 0 0,
  i_al 17 0,
  i_get 18 10 21,
  i_il 19 1,
  i_ald 20 0,
  i_il 21 3,
  i_icmp 22 32 (fun x y => x = y),
  i_al 23 0,
  i_get 24 10 21,
  i_il 25 1,
  i_ald 26 0,
  i_il 27 3,
  i_icmp 28 30 (fun x y => x ≤ y),
  i_con 29 1,
  i_goto 41,
  i_con 31 0,
  i_goto 41,
  i_al 33 0,
  i_get 34 10 22,
  i_il 35 1,
  i_ald 36 0,
  i_il 37 4,
  i_icmp 38 40 (fun x y => x ≤ y),
  i_con 39 1,
  i_goto 41,
  i_con 41 0,
  i_zret Po 0 0]
set_option maxRecDepth 20000 in
set_option maxHeartbeats 4000000 in
theorem z10_isBehind (l : Launch) (Po : ri_O) (p : Program) (e : Env) (s : State) (m : MethodId) (args : Array Value) (below : List Frame) (meth : Method) (c : Code) (D : va_G) (ka : Nat → ClassId) (sa : Nat → Nat) (base : Nat) (X : ri_X p s m args c c10_isBehind 5 w10_isBehind "ChoraleSearchModel" D ka sa base) (hret : meth.sig.returnType = (some .boolean)) (hlocks : meth.locks = false) (hname : meth.name = "isBehind") : ri_clo (ri_W p l e r10_isBehind s m args below meth c D ka sa base 5 (MQ below (ri_Qc D ka sa base Po) args s 0 0 (fun q => base ≤ q)) p10_isBehind) (t10_isBehind l Po) := by
  refine ri_clo_of ?_
  unfold t10_isBehind
  exact ⟨s_aload_n X d10_isBehind_0 rfl rfl,
    s_get X (ci := 10) (f := 20) rfl (fun w h => List.mem_cons_of_mem _ (uC_10 w h)) (by decide) (List.mem_cons_of_mem _ mgw_834) d10_isBehind_1 rfl,
    s_iload_n X d10_isBehind_4 rfl rfl,
    s_iald X rfl d10_isBehind_5 rfl,
    s_iload_n X d10_isBehind_6 rfl rfl,
    s_icmp_eq X d10_isBehind_7 rfl rfl,
    s_aload_n X d10_isBehind_10 rfl rfl,
    s_get X (ci := 10) (f := 20) rfl (fun w h => List.mem_cons_of_mem _ (uC_10 w h)) (by decide) (List.mem_cons_of_mem _ mgw_834) d10_isBehind_11 rfl,
    s_iload_n X d10_isBehind_14 rfl rfl,
    s_iald X rfl d10_isBehind_15 rfl,
    s_iload_n X d10_isBehind_16 rfl rfl,
    s_icmp_le X d10_isBehind_17 rfl rfl,
    s_iconst X d10_isBehind_20 rfl rfl,
    s_goto X d10_isBehind_21 rfl,
    s_iconst X d10_isBehind_24 rfl rfl,
    s_zret X hret hlocks d10_isBehind_25,
    s_aload_n X d10_isBehind_26 rfl rfl,
    s_get X (ci := 10) (f := 21) rfl (fun w h => List.mem_cons_of_mem _ (uC_10 w h)) (by decide) (List.mem_cons_of_mem _ mgw_835) d10_isBehind_27 rfl,
    s_iload_n X d10_isBehind_30 rfl rfl,
    s_iald X rfl d10_isBehind_31 rfl,
    s_iload_n X d10_isBehind_32 rfl rfl,
    s_icmp_eq X d10_isBehind_33 rfl rfl,
    s_aload_n X d10_isBehind_36 rfl rfl,
    s_get X (ci := 10) (f := 21) rfl (fun w h => List.mem_cons_of_mem _ (uC_10 w h)) (by decide) (List.mem_cons_of_mem _ mgw_835) d10_isBehind_37 rfl,
    s_iload_n X d10_isBehind_40 rfl rfl,
    s_iald X rfl d10_isBehind_41 rfl,
    s_iload_n X d10_isBehind_42 rfl rfl,
    s_icmp_le X d10_isBehind_43 rfl rfl,
    s_iconst X d10_isBehind_46 rfl rfl,
    s_goto X d10_isBehind_47 rfl,
    s_iconst X d10_isBehind_50 rfl rfl,
    s_goto X d10_isBehind_51 rfl,
    s_aload_n X d10_isBehind_54 rfl rfl,
    s_get X (ci := 10) (f := 22) rfl (fun w h => List.mem_cons_of_mem _ (uC_10 w h)) (by decide) (List.mem_cons_of_mem _ mgw_836) d10_isBehind_55 rfl,
    s_iload_n X d10_isBehind_58 rfl rfl,
    s_iald X rfl d10_isBehind_59 rfl,
    s_iload X d10_isBehind_60 rfl,
    s_icmp_le X d10_isBehind_62 rfl rfl,
    s_iconst X d10_isBehind_65 rfl rfl,
    s_goto X d10_isBehind_66 rfl,
    s_iconst X d10_isBehind_69 rfl rfl,
    s_zret X hret hlocks d10_isBehind_70, trivial⟩
theorem d10_barsStep_0 : decode c10_barsStep 0 = .ok (.aload_n 0, 1) := by decide +kernel
theorem d10_barsStep_1 : decode c10_barsStep 1 = .ok (.getfield 57, 3) := by decide +kernel
theorem d10_barsStep_4 : decode c10_barsStep 4 = .ok (.iload_n 1, 1) := by decide +kernel
theorem d10_barsStep_5 : decode c10_barsStep 5 = .ok (.iaload, 1) := by decide +kernel
theorem d10_barsStep_6 : decode c10_barsStep 6 = .ok (.istore_n 3, 1) := by decide +kernel
theorem d10_barsStep_7 : decode c10_barsStep 7 = .ok (.aload_n 0, 1) := by decide +kernel
theorem d10_barsStep_8 : decode c10_barsStep 8 = .ok (.getfield 57, 3) := by decide +kernel
theorem d10_barsStep_11 : decode c10_barsStep 11 = .ok (.iload_n 2, 1) := by decide +kernel
theorem d10_barsStep_12 : decode c10_barsStep 12 = .ok (.iaload, 1) := by decide +kernel
theorem d10_barsStep_13 : decode c10_barsStep 13 = .ok (.istore 4, 2) := by decide +kernel
theorem d10_barsStep_15 : decode c10_barsStep 15 = .ok (.iload_n 3, 1) := by decide +kernel
theorem d10_barsStep_16 : decode c10_barsStep 16 = .ok (.iload 4, 2) := by decide +kernel
theorem d10_barsStep_18 : decode c10_barsStep 18 = .ok (.invokestatic 182, 3) := by decide +kernel
theorem d10_barsStep_21 : decode c10_barsStep 21 = .ok (.ifCond .ge 9, 3) := by decide +kernel
theorem d10_barsStep_24 : decode c10_barsStep 24 = .ok (.sipush 128, 3) := by decide +kernel
theorem d10_barsStep_27 : decode c10_barsStep 27 = .ok (.goto 4, 3) := by decide +kernel
theorem d10_barsStep_30 : decode c10_barsStep 30 = .ok (.iconst 0, 1) := by decide +kernel
theorem d10_barsStep_31 : decode c10_barsStep 31 = .ok (.istore 5, 2) := by decide +kernel
theorem d10_barsStep_33 : decode c10_barsStep 33 = .ok (.iconst 0, 1) := by decide +kernel
theorem d10_barsStep_34 : decode c10_barsStep 34 = .ok (.istore 6, 2) := by decide +kernel
theorem d10_barsStep_36 : decode c10_barsStep 36 = .ok (.iload 6, 2) := by decide +kernel
theorem d10_barsStep_38 : decode c10_barsStep 38 = .ok (.iconst 4, 1) := by decide +kernel
theorem d10_barsStep_39 : decode c10_barsStep 39 = .ok (.if_icmp .ge 366, 3) := by decide +kernel
theorem d10_barsStep_42 : decode c10_barsStep 42 = .ok (.aload_n 0, 1) := by decide +kernel
theorem d10_barsStep_43 : decode c10_barsStep 43 = .ok (.getfield 54, 3) := by decide +kernel
theorem d10_barsStep_46 : decode c10_barsStep 46 = .ok (.iconst 4, 1) := by decide +kernel
theorem d10_barsStep_47 : decode c10_barsStep 47 = .ok (.iload_n 1, 1) := by decide +kernel
theorem d10_barsStep_48 : decode c10_barsStep 48 = .ok (.imul, 1) := by decide +kernel
theorem d10_barsStep_49 : decode c10_barsStep 49 = .ok (.iload 6, 2) := by decide +kernel
theorem d10_barsStep_51 : decode c10_barsStep 51 = .ok (.iadd, 1) := by decide +kernel
theorem d10_barsStep_52 : decode c10_barsStep 52 = .ok (.iaload, 1) := by decide +kernel
theorem d10_barsStep_53 : decode c10_barsStep 53 = .ok (.istore 7, 2) := by decide +kernel
theorem d10_barsStep_55 : decode c10_barsStep 55 = .ok (.aload_n 0, 1) := by decide +kernel
theorem d10_barsStep_56 : decode c10_barsStep 56 = .ok (.getfield 54, 3) := by decide +kernel
theorem d10_barsStep_59 : decode c10_barsStep 59 = .ok (.iconst 4, 1) := by decide +kernel
theorem d10_barsStep_60 : decode c10_barsStep 60 = .ok (.iload_n 2, 1) := by decide +kernel
theorem d10_barsStep_61 : decode c10_barsStep 61 = .ok (.imul, 1) := by decide +kernel
theorem d10_barsStep_62 : decode c10_barsStep 62 = .ok (.iload 6, 2) := by decide +kernel
theorem d10_barsStep_64 : decode c10_barsStep 64 = .ok (.iadd, 1) := by decide +kernel
theorem d10_barsStep_65 : decode c10_barsStep 65 = .ok (.iaload, 1) := by decide +kernel
theorem d10_barsStep_66 : decode c10_barsStep 66 = .ok (.istore 8, 2) := by decide +kernel
theorem d10_barsStep_68 : decode c10_barsStep 68 = .ok (.iload 8, 2) := by decide +kernel
theorem d10_barsStep_70 : decode c10_barsStep 70 = .ok (.iload 7, 2) := by decide +kernel
theorem d10_barsStep_72 : decode c10_barsStep 72 = .ok (.isub, 1) := by decide +kernel
theorem d10_barsStep_73 : decode c10_barsStep 73 = .ok (.invokestatic 185, 3) := by decide +kernel
theorem d10_barsStep_76 : decode c10_barsStep 76 = .ok (.istore 9, 2) := by decide +kernel
theorem d10_barsStep_78 : decode c10_barsStep 78 = .ok (.iload 6, 2) := by decide +kernel
theorem d10_barsStep_80 : decode c10_barsStep 80 = .ok (.iconst 1, 1) := by decide +kernel
theorem d10_barsStep_81 : decode c10_barsStep 81 = .ok (.iadd, 1) := by decide +kernel
theorem d10_barsStep_82 : decode c10_barsStep 82 = .ok (.istore 10, 2) := by decide +kernel
theorem d10_barsStep_84 : decode c10_barsStep 84 = .ok (.iload 10, 2) := by decide +kernel
theorem d10_barsStep_86 : decode c10_barsStep 86 = .ok (.iconst 4, 1) := by decide +kernel
theorem d10_barsStep_87 : decode c10_barsStep 87 = .ok (.if_icmp .ge 92, 3) := by decide +kernel
theorem d10_barsStep_90 : decode c10_barsStep 90 = .ok (.aload_n 0, 1) := by decide +kernel
theorem d10_barsStep_91 : decode c10_barsStep 91 = .ok (.getfield 54, 3) := by decide +kernel
theorem d10_barsStep_94 : decode c10_barsStep 94 = .ok (.iconst 4, 1) := by decide +kernel
theorem d10_barsStep_95 : decode c10_barsStep 95 = .ok (.iload_n 1, 1) := by decide +kernel
theorem d10_barsStep_96 : decode c10_barsStep 96 = .ok (.imul, 1) := by decide +kernel
theorem d10_barsStep_97 : decode c10_barsStep 97 = .ok (.iload 10, 2) := by decide +kernel
theorem d10_barsStep_99 : decode c10_barsStep 99 = .ok (.iadd, 1) := by decide +kernel
theorem d10_barsStep_100 : decode c10_barsStep 100 = .ok (.iaload, 1) := by decide +kernel
theorem d10_barsStep_101 : decode c10_barsStep 101 = .ok (.istore 11, 2) := by decide +kernel
theorem d10_barsStep_103 : decode c10_barsStep 103 = .ok (.aload_n 0, 1) := by decide +kernel
theorem d10_barsStep_104 : decode c10_barsStep 104 = .ok (.getfield 54, 3) := by decide +kernel
theorem d10_barsStep_107 : decode c10_barsStep 107 = .ok (.iconst 4, 1) := by decide +kernel
theorem d10_barsStep_108 : decode c10_barsStep 108 = .ok (.iload_n 2, 1) := by decide +kernel
theorem d10_barsStep_109 : decode c10_barsStep 109 = .ok (.imul, 1) := by decide +kernel
theorem d10_barsStep_110 : decode c10_barsStep 110 = .ok (.iload 10, 2) := by decide +kernel
theorem d10_barsStep_112 : decode c10_barsStep 112 = .ok (.iadd, 1) := by decide +kernel
theorem d10_barsStep_113 : decode c10_barsStep 113 = .ok (.iaload, 1) := by decide +kernel
theorem d10_barsStep_114 : decode c10_barsStep 114 = .ok (.istore 12, 2) := by decide +kernel
theorem d10_barsStep_116 : decode c10_barsStep 116 = .ok (.iload 7, 2) := by decide +kernel
theorem d10_barsStep_118 : decode c10_barsStep 118 = .ok (.iload 11, 2) := by decide +kernel
theorem d10_barsStep_120 : decode c10_barsStep 120 = .ok (.isub, 1) := by decide +kernel
theorem d10_barsStep_121 : decode c10_barsStep 121 = .ok (.invokestatic 188, 3) := by decide +kernel
theorem d10_barsStep_124 : decode c10_barsStep 124 = .ok (.istore 13, 2) := by decide +kernel
theorem d10_barsStep_126 : decode c10_barsStep 126 = .ok (.iload 7, 2) := by decide +kernel
theorem d10_barsStep_128 : decode c10_barsStep 128 = .ok (.iload 8, 2) := by decide +kernel
theorem d10_barsStep_130 : decode c10_barsStep 130 = .ok (.if_icmp .eq 43, 3) := by decide +kernel
theorem d10_barsStep_133 : decode c10_barsStep 133 = .ok (.iload 11, 2) := by decide +kernel
theorem d10_barsStep_135 : decode c10_barsStep 135 = .ok (.iload 12, 2) := by decide +kernel
theorem d10_barsStep_137 : decode c10_barsStep 137 = .ok (.if_icmp .eq 36, 3) := by decide +kernel
theorem d10_barsStep_140 : decode c10_barsStep 140 = .ok (.iload 13, 2) := by decide +kernel
theorem d10_barsStep_142 : decode c10_barsStep 142 = .ok (.iload 8, 2) := by decide +kernel
theorem d10_barsStep_144 : decode c10_barsStep 144 = .ok (.iload 12, 2) := by decide +kernel
theorem d10_barsStep_146 : decode c10_barsStep 146 = .ok (.isub, 1) := by decide +kernel
theorem d10_barsStep_147 : decode c10_barsStep 147 = .ok (.invokestatic 188, 3) := by decide +kernel
theorem d10_barsStep_150 : decode c10_barsStep 150 = .ok (.if_icmp .ne 23, 3) := by decide +kernel
theorem d10_barsStep_153 : decode c10_barsStep 153 = .ok (.iload 13, 2) := by decide +kernel
theorem d10_barsStep_155 : decode c10_barsStep 155 = .ok (.ifCond .eq 10, 3) := by decide +kernel
theorem d10_barsStep_158 : decode c10_barsStep 158 = .ok (.iload 13, 2) := by decide +kernel
theorem d10_barsStep_160 : decode c10_barsStep 160 = .ok (.bipush 7, 2) := by decide +kernel
theorem d10_barsStep_162 : decode c10_barsStep 162 = .ok (.if_icmp .ne 11, 3) := by decide +kernel
theorem d10_barsStep_165 : decode c10_barsStep 165 = .ok (.iload 5, 2) := by decide +kernel
theorem d10_barsStep_167 : decode c10_barsStep 167 = .ok (.sipush 256, 3) := by decide +kernel
theorem d10_barsStep_170 : decode c10_barsStep 170 = .ok (.ior, 1) := by decide +kernel
theorem d10_barsStep_171 : decode c10_barsStep 171 = .ok (.istore 5, 2) := by decide +kernel
theorem d10_barsStep_173 : decode c10_barsStep 173 = .ok (.iinc 10 1, 3) := by decide +kernel
theorem d10_barsStep_176 : decode c10_barsStep 176 = .ok (.goto (-92), 3) := by decide +kernel
theorem d10_barsStep_179 : decode c10_barsStep 179 = .ok (.iload 9, 2) := by decide +kernel
theorem d10_barsStep_181 : decode c10_barsStep 181 = .ok (.bipush 6, 2) := by decide +kernel
theorem d10_barsStep_183 : decode c10_barsStep 183 = .ok (.if_icmp .eq 24, 3) := by decide +kernel
theorem d10_barsStep_186 : decode c10_barsStep 186 = .ok (.iload 9, 2) := by decide +kernel
theorem d10_barsStep_188 : decode c10_barsStep 188 = .ok (.bipush 10, 2) := by decide +kernel
theorem d10_barsStep_190 : decode c10_barsStep 190 = .ok (.if_icmp .eq 17, 3) := by decide +kernel
theorem d10_barsStep_193 : decode c10_barsStep 193 = .ok (.iload 9, 2) := by decide +kernel
theorem d10_barsStep_195 : decode c10_barsStep 195 = .ok (.bipush 11, 2) := by decide +kernel
theorem d10_barsStep_197 : decode c10_barsStep 197 = .ok (.if_icmp .eq 10, 3) := by decide +kernel
theorem d10_barsStep_200 : decode c10_barsStep 200 = .ok (.iload 9, 2) := by decide +kernel
theorem d10_barsStep_202 : decode c10_barsStep 202 = .ok (.bipush 12, 2) := by decide +kernel
theorem d10_barsStep_204 : decode c10_barsStep 204 = .ok (.if_icmp .le 11, 3) := by decide +kernel
theorem d10_barsStep_207 : decode c10_barsStep 207 = .ok (.iload 5, 2) := by decide +kernel
theorem d10_barsStep_209 : decode c10_barsStep 209 = .ok (.sipush 512, 3) := by decide +kernel
theorem d10_barsStep_212 : decode c10_barsStep 212 = .ok (.ior, 1) := by decide +kernel
theorem d10_barsStep_213 : decode c10_barsStep 213 = .ok (.istore 5, 2) := by decide +kernel
theorem d10_barsStep_215 : decode c10_barsStep 215 = .ok (.iload 6, 2) := by decide +kernel
theorem d10_barsStep_217 : decode c10_barsStep 217 = .ok (.ifCond .le 21, 3) := by decide +kernel
theorem d10_barsStep_220 : decode c10_barsStep 220 = .ok (.iload 8, 2) := by decide +kernel
theorem d10_barsStep_222 : decode c10_barsStep 222 = .ok (.aload_n 0, 1) := by decide +kernel
theorem d10_barsStep_223 : decode c10_barsStep 223 = .ok (.getfield 54, 3) := by decide +kernel
theorem d10_barsStep_226 : decode c10_barsStep 226 = .ok (.iconst 4, 1) := by decide +kernel
theorem d10_barsStep_227 : decode c10_barsStep 227 = .ok (.iload_n 1, 1) := by decide +kernel
theorem d10_barsStep_228 : decode c10_barsStep 228 = .ok (.imul, 1) := by decide +kernel
theorem d10_barsStep_229 : decode c10_barsStep 229 = .ok (.iload 6, 2) := by decide +kernel
theorem d10_barsStep_231 : decode c10_barsStep 231 = .ok (.iadd, 1) := by decide +kernel
theorem d10_barsStep_232 : decode c10_barsStep 232 = .ok (.iconst 1, 1) := by decide +kernel
theorem d10_barsStep_233 : decode c10_barsStep 233 = .ok (.isub, 1) := by decide +kernel
theorem d10_barsStep_234 : decode c10_barsStep 234 = .ok (.iaload, 1) := by decide +kernel
theorem d10_barsStep_235 : decode c10_barsStep 235 = .ok (.if_icmp .gt 27, 3) := by decide +kernel
theorem d10_barsStep_238 : decode c10_barsStep 238 = .ok (.iload 6, 2) := by decide +kernel
theorem d10_barsStep_240 : decode c10_barsStep 240 = .ok (.iconst 3, 1) := by decide +kernel
theorem d10_barsStep_241 : decode c10_barsStep 241 = .ok (.if_icmp .ge 29, 3) := by decide +kernel
theorem d10_barsStep_244 : decode c10_barsStep 244 = .ok (.iload 8, 2) := by decide +kernel
theorem d10_barsStep_246 : decode c10_barsStep 246 = .ok (.aload_n 0, 1) := by decide +kernel
theorem d10_barsStep_247 : decode c10_barsStep 247 = .ok (.getfield 54, 3) := by decide +kernel
theorem d10_barsStep_250 : decode c10_barsStep 250 = .ok (.iconst 4, 1) := by decide +kernel
theorem d10_barsStep_251 : decode c10_barsStep 251 = .ok (.iload_n 1, 1) := by decide +kernel
theorem d10_barsStep_252 : decode c10_barsStep 252 = .ok (.imul, 1) := by decide +kernel
theorem d10_barsStep_253 : decode c10_barsStep 253 = .ok (.iload 6, 2) := by decide +kernel
theorem d10_barsStep_255 : decode c10_barsStep 255 = .ok (.iadd, 1) := by decide +kernel
theorem d10_barsStep_256 : decode c10_barsStep 256 = .ok (.iconst 1, 1) := by decide +kernel
theorem d10_barsStep_257 : decode c10_barsStep 257 = .ok (.iadd, 1) := by decide +kernel
theorem d10_barsStep_258 : decode c10_barsStep 258 = .ok (.iaload, 1) := by decide +kernel
theorem d10_barsStep_259 : decode c10_barsStep 259 = .ok (.if_icmp .ge 11, 3) := by decide +kernel
theorem d10_barsStep_262 : decode c10_barsStep 262 = .ok (.iload 5, 2) := by decide +kernel
theorem d10_barsStep_264 : decode c10_barsStep 264 = .ok (.sipush 1024, 3) := by decide +kernel
theorem d10_barsStep_267 : decode c10_barsStep 267 = .ok (.ior, 1) := by decide +kernel
theorem d10_barsStep_268 : decode c10_barsStep 268 = .ok (.istore 5, 2) := by decide +kernel
theorem d10_barsStep_270 : decode c10_barsStep 270 = .ok (.iload 6, 2) := by decide +kernel
theorem d10_barsStep_272 : decode c10_barsStep 272 = .ok (.ifCond .eq 9, 3) := by decide +kernel
theorem d10_barsStep_275 : decode c10_barsStep 275 = .ok (.iload 6, 2) := by decide +kernel
theorem d10_barsStep_277 : decode c10_barsStep 277 = .ok (.iconst 3, 1) := by decide +kernel
theorem d10_barsStep_278 : decode c10_barsStep 278 = .ok (.if_icmp .ne 7, 3) := by decide +kernel
theorem d10_barsStep_281 : decode c10_barsStep 281 = .ok (.iconst 1, 1) := by decide +kernel
theorem d10_barsStep_282 : decode c10_barsStep 282 = .ok (.goto 4, 3) := by decide +kernel
theorem d10_barsStep_285 : decode c10_barsStep 285 = .ok (.iconst 0, 1) := by decide +kernel
theorem d10_barsStep_286 : decode c10_barsStep 286 = .ok (.istore 10, 2) := by decide +kernel
theorem d10_barsStep_288 : decode c10_barsStep 288 = .ok (.iload_n 3, 1) := by decide +kernel
theorem d10_barsStep_289 : decode c10_barsStep 289 = .ok (.iconst 4, 1) := by decide +kernel
theorem d10_barsStep_290 : decode c10_barsStep 290 = .ok (.if_icmp .eq 15, 3) := by decide +kernel
theorem d10_barsStep_293 : decode c10_barsStep 293 = .ok (.iload_n 3, 1) := by decide +kernel
theorem d10_barsStep_294 : decode c10_barsStep 294 = .ok (.bipush 6, 2) := by decide +kernel
theorem d10_barsStep_296 : decode c10_barsStep 296 = .ok (.if_icmp .eq 9, 3) := by decide +kernel
theorem d10_barsStep_299 : decode c10_barsStep 299 = .ok (.iload_n 3, 1) := by decide +kernel
theorem d10_barsStep_300 : decode c10_barsStep 300 = .ok (.bipush 7, 2) := by decide +kernel
theorem d10_barsStep_302 : decode c10_barsStep 302 = .ok (.if_icmp .ne 47, 3) := by decide +kernel
theorem d10_barsStep_305 : decode c10_barsStep 305 = .ok (.iload 4, 2) := by decide +kernel
theorem d10_barsStep_307 : decode c10_barsStep 307 = .ok (.ifCond .eq 9, 3) := by decide +kernel
theorem d10_barsStep_310 : decode c10_barsStep 310 = .ok (.iload 4, 2) := by decide +kernel
theorem d10_barsStep_312 : decode c10_barsStep 312 = .ok (.iconst 5, 1) := by decide +kernel
theorem d10_barsStep_313 : decode c10_barsStep 313 = .ok (.if_icmp .ne 36, 3) := by decide +kernel
theorem d10_barsStep_316 : decode c10_barsStep 316 = .ok (.iload 10, 2) := by decide +kernel
theorem d10_barsStep_318 : decode c10_barsStep 318 = .ok (.ifCond .eq 31, 3) := by decide +kernel
theorem d10_barsStep_321 : decode c10_barsStep 321 = .ok (.aload_n 0, 1) := by decide +kernel
theorem d10_barsStep_322 : decode c10_barsStep 322 = .ok (.iload 7, 2) := by decide +kernel
theorem d10_barsStep_324 : decode c10_barsStep 324 = .ok (.invokevirtual 109, 3) := by decide +kernel
theorem d10_barsStep_327 : decode c10_barsStep 327 = .ok (.bipush 11, 2) := by decide +kernel
theorem d10_barsStep_329 : decode c10_barsStep 329 = .ok (.if_icmp .ne 20, 3) := by decide +kernel
theorem d10_barsStep_332 : decode c10_barsStep 332 = .ok (.iload 8, 2) := by decide +kernel
theorem d10_barsStep_334 : decode c10_barsStep 334 = .ok (.iload 7, 2) := by decide +kernel
theorem d10_barsStep_336 : decode c10_barsStep 336 = .ok (.iconst 1, 1) := by decide +kernel
theorem d10_barsStep_337 : decode c10_barsStep 337 = .ok (.iadd, 1) := by decide +kernel
theorem d10_barsStep_338 : decode c10_barsStep 338 = .ok (.if_icmp .eq 11, 3) := by decide +kernel
theorem d10_barsStep_341 : decode c10_barsStep 341 = .ok (.iload 5, 2) := by decide +kernel
theorem d10_barsStep_343 : decode c10_barsStep 343 = .ok (.sipush 2048, 3) := by decide +kernel
theorem d10_barsStep_346 : decode c10_barsStep 346 = .ok (.ior, 1) := by decide +kernel
theorem d10_barsStep_347 : decode c10_barsStep 347 = .ok (.istore 5, 2) := by decide +kernel
theorem d10_barsStep_349 : decode c10_barsStep 349 = .ok (.iload_n 3, 1) := by decide +kernel
theorem d10_barsStep_350 : decode c10_barsStep 350 = .ok (.iload 4, 2) := by decide +kernel
theorem d10_barsStep_352 : decode c10_barsStep 352 = .ok (.if_icmp .eq 47, 3) := by decide +kernel
theorem d10_barsStep_355 : decode c10_barsStep 355 = .ok (.aload_n 0, 1) := by decide +kernel
theorem d10_barsStep_356 : decode c10_barsStep 356 = .ok (.iload_n 3, 1) := by decide +kernel
theorem d10_barsStep_357 : decode c10_barsStep 357 = .ok (.iload 7, 2) := by decide +kernel
theorem d10_barsStep_359 : decode c10_barsStep 359 = .ok (.invokevirtual 146, 3) := by decide +kernel
theorem d10_barsStep_362 : decode c10_barsStep 362 = .ok (.iconst 3, 1) := by decide +kernel
theorem d10_barsStep_363 : decode c10_barsStep 363 = .ok (.if_icmp .ne 36, 3) := by decide +kernel
theorem d10_barsStep_366 : decode c10_barsStep 366 = .ok (.iload 8, 2) := by decide +kernel
theorem d10_barsStep_368 : decode c10_barsStep 368 = .ok (.iload 7, 2) := by decide +kernel
theorem d10_barsStep_370 : decode c10_barsStep 370 = .ok (.if_icmp .eq 29, 3) := by decide +kernel
theorem d10_barsStep_373 : decode c10_barsStep 373 = .ok (.iload 8, 2) := by decide +kernel
theorem d10_barsStep_375 : decode c10_barsStep 375 = .ok (.iload 7, 2) := by decide +kernel
theorem d10_barsStep_377 : decode c10_barsStep 377 = .ok (.iconst 1, 1) := by decide +kernel
theorem d10_barsStep_378 : decode c10_barsStep 378 = .ok (.isub, 1) := by decide +kernel
theorem d10_barsStep_379 : decode c10_barsStep 379 = .ok (.if_icmp .eq 20, 3) := by decide +kernel
theorem d10_barsStep_382 : decode c10_barsStep 382 = .ok (.iload 8, 2) := by decide +kernel
theorem d10_barsStep_384 : decode c10_barsStep 384 = .ok (.iload 7, 2) := by decide +kernel
theorem d10_barsStep_386 : decode c10_barsStep 386 = .ok (.iconst 2, 1) := by decide +kernel
theorem d10_barsStep_387 : decode c10_barsStep 387 = .ok (.isub, 1) := by decide +kernel
theorem d10_barsStep_388 : decode c10_barsStep 388 = .ok (.if_icmp .eq 11, 3) := by decide +kernel
theorem d10_barsStep_391 : decode c10_barsStep 391 = .ok (.iload 5, 2) := by decide +kernel
theorem d10_barsStep_393 : decode c10_barsStep 393 = .ok (.sipush 4096, 3) := by decide +kernel
theorem d10_barsStep_396 : decode c10_barsStep 396 = .ok (.ior, 1) := by decide +kernel
theorem d10_barsStep_397 : decode c10_barsStep 397 = .ok (.istore 5, 2) := by decide +kernel
theorem d10_barsStep_399 : decode c10_barsStep 399 = .ok (.iinc 6 1, 3) := by decide +kernel
theorem d10_barsStep_402 : decode c10_barsStep 402 = .ok (.goto (-366), 3) := by decide +kernel
theorem d10_barsStep_405 : decode c10_barsStep 405 = .ok (.iload 5, 2) := by decide +kernel
theorem d10_barsStep_407 : decode c10_barsStep 407 = .ok (.ireturn, 1) := by decide +kernel
def t10_barsStep (l : Launch) (Po : ri_O) : List ri_S := [i_al 1 0,
  i_get 2 10 17,
  i_il 3 1,
  i_ald 4 0,
  i_is 5 3,
  i_al 6 0,
  i_get 7 10 17,
  i_il 8 2,
  i_ald 9 0,
  i_is 10 4,
  i_il 11 3,
  i_il 12 4,
  i_call 13 2 (ri_Ev l y10_units w10_units r10_units 0 0) 0 0 0 0,
  i_if 14 16 (fun x => 0 ≤ x),
  i_con 15 128,
  i_goto 17,
  i_con 17 0,
  i_is 18 5,
  i_con 19 0,
  i_is 20 6,
  i_il 21 6,
  i_con 22 4,
  i_icmp 23 215 (fun x y => y ≤ x),
  i_al 24 0,
  i_get 25 10 16,
  i_con 26 4,
  i_il 27 1,
  i_bin 28 (fun x y => x * y),
  i_il 29 6,
  i_bin 30 (fun x y => x + y),
  i_ald 31 0,
  i_is 32 7,
  i_al 33 0,
  i_get 34 10 16,
  i_con 35 4,
  i_il 36 2,
  i_bin 37 (fun x y => x * y),
  i_il 38 6,
  i_bin 39 (fun x y => x + y),
  i_ald 40 0,
  i_is 41 8,
  i_il 42 8,
  i_il 43 7,
  i_bin 44 (fun x y => x - y),
  i_call 45 1 (ri_Ev l y10_size w10_size r10_size 0 0) 0 0 0 0,
  i_is 46 9,
  i_il 47 6,
  i_con 48 1,
  i_bin 49 (fun x y => x + y),
  i_is 50 10,
  i_il 51 10,
  i_con 52 4,
  i_icmp 53 99 (fun x y => y ≤ x),
  i_al 54 0,
  i_get 55 10 16,
  i_con 56 4,
  i_il 57 1,
  i_bin 58 (fun x y => x * y),
  i_il 59 10,
  i_bin 60 (fun x y => x + y),
  i_ald 61 0,
  i_is 62 11,
  i_al 63 0,
  i_get 64 10 16,
  i_con 65 4,
  i_il 66 2,
  i_bin 67 (fun x y => x * y),
  i_il 68 10,
  i_bin 69 (fun x y => x + y),
  i_ald 70 0,
  i_is 71 12,
  i_il 72 7,
  i_il 73 11,
  i_bin 74 (fun x y => x - y),
  i_call 75 1 (ri_Ev l y10_apart w10_apart r10_apart 0 0) 0 0 0 0,
  i_is 76 13,
  i_il 77 7,
  i_il 78 8,
  i_icmp 79 97 (fun x y => x = y),
  i_il 80 11,
  i_il 81 12,
  i_icmp 82 97 (fun x y => x = y),
  i_il 83 13,
  i_il 84 8,
  i_il 85 12,
  i_bin 86 (fun x y => x - y),
  i_call 87 1 (ri_Ev l y10_apart w10_apart r10_apart 0 0) 0 0 0 0,
  i_icmp 88 97 (fun x y => ¬ x = y),
  i_il 89 13,
  i_if 90 93 (fun x => x = 0),
  i_il 91 13,
  i_con 92 7,
  i_icmp 93 97 (fun x y => ¬ x = y),
  i_il 94 5,
  i_con 95 256,
  i_bin 96 (fun x y => x ||| y),
  i_is 97 5,
  i_inc 98 10 1,
  i_goto 50,
  i_il 100 9,
  i_con 101 6,
  i_icmp 102 111 (fun x y => x = y),
  i_il 103 9,
  i_con 104 10,
  i_icmp 105 111 (fun x y => x = y),
  i_il 106 9,
  i_con 107 11,
  i_icmp 108 111 (fun x y => x = y),
  i_il 109 9,
  i_con 110 12,
  i_icmp 111 115 (fun x y => x ≤ y),
  i_il 112 5,
  i_con 113 512,
  i_bin 114 (fun x y => x ||| y),
  i_is 115 5,
  i_il 116 6,
  i_if 117 129 (fun x => x ≤ 0),
  i_il 118 8,
  i_al 119 0,
  i_get 120 10 16,
  i_con 121 4,
  i_il 122 1,
  i_bin 123 (fun x y => x * y),
  i_il 124 6,
  i_bin 125 (fun x y => x + y),
  i_con 126 1,
  i_bin 127 (fun x y => x - y),
  i_ald 128 0,
  i_icmp 129 144 (fun x y => y < x),
  i_il 130 6,
  i_con 131 3,
  i_icmp 132 148 (fun x y => y ≤ x),
  i_il 133 8,
  i_al 134 0,
  i_get 135 10 16,
  i_con 136 4,
  i_il 137 1,
  i_bin 138 (fun x y => x * y),
  i_il 139 6,
  i_bin 140 (fun x y => x + y),
  i_con 141 1,
  i_bin 142 (fun x y => x + y),
  i_ald 143 0,
  i_icmp 144 148 (fun x y => y ≤ x),
  i_il 145 5,
  i_con 146 1024,
  i_bin 147 (fun x y => x ||| y),
  i_is 148 5,
  i_il 149 6,
  i_if 150 153 (fun x => x = 0),
  i_il 151 6,
  i_con 152 3,
  i_icmp 153 155 (fun x y => ¬ x = y),
  i_con 154 1,
  i_goto 156,
  i_con 156 0,
  i_is 157 10,
  i_il 158 3,
  i_con 159 4,
  i_icmp 160 166 (fun x y => x = y),
  i_il 161 3,
  i_con 162 6,
  i_icmp 163 166 (fun x y => x = y),
  i_il 164 3,
  i_con 165 7,
  i_icmp 166 187 (fun x y => ¬ x = y),
  i_il 167 4,
  i_if 168 171 (fun x => x = 0),
  i_il 169 4,
  i_con 170 5,
  i_icmp 171 187 (fun x y => ¬ x = y),
  i_il 172 10,
  i_if 173 187 (fun x => x = 0),
  i_al 174 0,
  i_il 175 7,
  i_callV 176 2 10 (ri_Ev l y10_degreeOf w10_degreeOf r10_degreeOf 0 0) 0 0 0 0,
  i_con 177 11,
  i_icmp 178 187 (fun x y => ¬ x = y),
  i_il 179 8,
  i_il 180 7,
  i_con 181 1,
  i_bin 182 (fun x y => x + y),
  i_icmp 183 187 (fun x y => x = y),
  i_il 184 5,
  i_con 185 2048,
  i_bin 186 (fun x y => x ||| y),
  i_is 187 5,
  i_il 188 3,
  i_il 189 4,
  i_icmp 190 213 (fun x y => x = y),
  i_al 191 0,
  i_il 192 3,
  i_il 193 7,
  i_callV 194 3 10 (ri_Ev l y10_memberOf w10_memberOf r10_memberOf 0 0) 0 0 0 0,
  i_con 195 3,
  i_icmp 196 213 (fun x y => ¬ x = y),
  i_il 197 8,
  i_il 198 7,
  i_icmp 199 213 (fun x y => x = y),
  i_il 200 8,
  i_il 201 7,
  i_con 202 1,
  i_bin 203 (fun x y => x - y),
  i_icmp 204 213 (fun x y => x = y),
  i_il 205 8,
  i_il 206 7,
  i_con 207 2,
  i_bin 208 (fun x y => x - y),
  i_icmp 209 213 (fun x y => x = y),
  i_il 210 5,
  i_con 211 4096,
  i_bin 212 (fun x y => x ||| y),
  i_is 213 5,
  i_inc 214 6 1,
  i_goto 20,
  i_il 216 5,
  i_ret Po 0 0]
set_option maxRecDepth 20000 in
set_option maxHeartbeats 4000000 in
theorem z10_barsStep (l : Launch) (Po : ri_O) (p : Program) (e : Env) (s : State) (m : MethodId) (args : Array Value) (below : List Frame) (meth : Method) (c : Code) (D : va_G) (ka : Nat → ClassId) (sa : Nat → Nat) (base : Nat) (X : ri_X p s m args c c10_barsStep 14 w10_barsStep "ChoraleSearchModel" D ka sa base) (hret : meth.sig.returnType = (some .int)) (hlocks : meth.locks = false) (hname : meth.name = "barsStep") : ri_clo (ri_W p l e r10_barsStep s m args below meth c D ka sa base 14 (MQ below (ri_Qc D ka sa base Po) args s 0 0 (fun q => base ≤ q)) p10_barsStep) (t10_barsStep l Po) := by
  refine ri_clo_of ?_
  unfold t10_barsStep
  exact ⟨s_aload_n X d10_barsStep_0 rfl rfl,
    s_get X (ci := 10) (f := 17) rfl (fun w h => List.mem_cons_of_mem _ (uC_10 w h)) (by decide) (List.mem_cons_of_mem _ mgw_831) d10_barsStep_1 rfl,
    s_iload_n X d10_barsStep_4 rfl rfl,
    s_iald X rfl d10_barsStep_5 rfl,
    s_istore_n X d10_barsStep_6 rfl (by decide) rfl,
    s_aload_n X d10_barsStep_7 rfl rfl,
    s_get X (ci := 10) (f := 17) rfl (fun w h => List.mem_cons_of_mem _ (uC_10 w h)) (by decide) (List.mem_cons_of_mem _ mgw_831) d10_barsStep_8 rfl,
    s_iload_n X d10_barsStep_11 rfl rfl,
    s_iald X rfl d10_barsStep_12 rfl,
    s_istore X d10_barsStep_13 (by decide) rfl,
    s_iload_n X d10_barsStep_15 rfl rfl,
    s_iload X d10_barsStep_16 rfl,
    s_callS ri_NW_ok X ⟨ri_cB X 2 mgw_1052 (List.mem_cons_of_mem _ mgw_12) (List.mem_cons_of_mem _ mgw_1050) (by decide +kernel) rfl rfl ⟨by decide, by decide⟩, X.2.2.2.2.1 _ (List.mem_cons_of_mem _ mgw_1051)⟩ d10_barsStep_18 rfl,
    s_if_ge X d10_barsStep_21 rfl rfl,
    s_sipush X d10_barsStep_24 rfl rfl,
    s_goto X d10_barsStep_27 rfl,
    s_iconst X d10_barsStep_30 rfl rfl,
    s_istore X d10_barsStep_31 (by decide) rfl,
    s_iconst X d10_barsStep_33 rfl rfl,
    s_istore X d10_barsStep_34 (by decide) rfl,
    s_iload X d10_barsStep_36 rfl,
    s_iconst X d10_barsStep_38 rfl rfl,
    s_icmp_ge X d10_barsStep_39 rfl rfl,
    s_aload_n X d10_barsStep_42 rfl rfl,
    s_get X (ci := 10) (f := 16) rfl (fun w h => List.mem_cons_of_mem _ (uC_10 w h)) (by decide) (List.mem_cons_of_mem _ mgw_830) d10_barsStep_43 rfl,
    s_iconst X d10_barsStep_46 rfl rfl,
    s_iload_n X d10_barsStep_47 rfl rfl,
    s_imul X d10_barsStep_48 rfl,
    s_iload X d10_barsStep_49 rfl,
    s_iadd X d10_barsStep_51 rfl,
    s_iald X rfl d10_barsStep_52 rfl,
    s_istore X d10_barsStep_53 (by decide) rfl,
    s_aload_n X d10_barsStep_55 rfl rfl,
    s_get X (ci := 10) (f := 16) rfl (fun w h => List.mem_cons_of_mem _ (uC_10 w h)) (by decide) (List.mem_cons_of_mem _ mgw_830) d10_barsStep_56 rfl,
    s_iconst X d10_barsStep_59 rfl rfl,
    s_iload_n X d10_barsStep_60 rfl rfl,
    s_imul X d10_barsStep_61 rfl,
    s_iload X d10_barsStep_62 rfl,
    s_iadd X d10_barsStep_64 rfl,
    s_iald X rfl d10_barsStep_65 rfl,
    s_istore X d10_barsStep_66 (by decide) rfl,
    s_iload X d10_barsStep_68 rfl,
    s_iload X d10_barsStep_70 rfl,
    s_isub X d10_barsStep_72 rfl,
    s_callS ri_NW_ok X ⟨ri_cB X 1 mgw_1058 (List.mem_cons_of_mem _ mgw_12) (List.mem_cons_of_mem _ mgw_1056) (by decide +kernel) rfl rfl ⟨by decide, by decide⟩, X.2.2.2.2.1 _ (List.mem_cons_of_mem _ mgw_1057)⟩ d10_barsStep_73 rfl,
    s_istore X d10_barsStep_76 (by decide) rfl,
    s_iload X d10_barsStep_78 rfl,
    s_iconst X d10_barsStep_80 rfl rfl,
    s_iadd X d10_barsStep_81 rfl,
    s_istore X d10_barsStep_82 (by decide) rfl,
    s_iload X d10_barsStep_84 rfl,
    s_iconst X d10_barsStep_86 rfl rfl,
    s_icmp_ge X d10_barsStep_87 rfl rfl,
    s_aload_n X d10_barsStep_90 rfl rfl,
    s_get X (ci := 10) (f := 16) rfl (fun w h => List.mem_cons_of_mem _ (uC_10 w h)) (by decide) (List.mem_cons_of_mem _ mgw_830) d10_barsStep_91 rfl,
    s_iconst X d10_barsStep_94 rfl rfl,
    s_iload_n X d10_barsStep_95 rfl rfl,
    s_imul X d10_barsStep_96 rfl,
    s_iload X d10_barsStep_97 rfl,
    s_iadd X d10_barsStep_99 rfl,
    s_iald X rfl d10_barsStep_100 rfl,
    s_istore X d10_barsStep_101 (by decide) rfl,
    s_aload_n X d10_barsStep_103 rfl rfl,
    s_get X (ci := 10) (f := 16) rfl (fun w h => List.mem_cons_of_mem _ (uC_10 w h)) (by decide) (List.mem_cons_of_mem _ mgw_830) d10_barsStep_104 rfl,
    s_iconst X d10_barsStep_107 rfl rfl,
    s_iload_n X d10_barsStep_108 rfl rfl,
    s_imul X d10_barsStep_109 rfl,
    s_iload X d10_barsStep_110 rfl,
    s_iadd X d10_barsStep_112 rfl,
    s_iald X rfl d10_barsStep_113 rfl,
    s_istore X d10_barsStep_114 (by decide) rfl,
    s_iload X d10_barsStep_116 rfl,
    s_iload X d10_barsStep_118 rfl,
    s_isub X d10_barsStep_120 rfl,
    s_callS ri_NW_ok X ⟨ri_cB X 1 mgw_1061 (List.mem_cons_of_mem _ mgw_12) (List.mem_cons_of_mem _ mgw_1059) (by decide +kernel) rfl rfl ⟨by decide, by decide⟩, X.2.2.2.2.1 _ (List.mem_cons_of_mem _ mgw_1060)⟩ d10_barsStep_121 rfl,
    s_istore X d10_barsStep_124 (by decide) rfl,
    s_iload X d10_barsStep_126 rfl,
    s_iload X d10_barsStep_128 rfl,
    s_icmp_eq X d10_barsStep_130 rfl rfl,
    s_iload X d10_barsStep_133 rfl,
    s_iload X d10_barsStep_135 rfl,
    s_icmp_eq X d10_barsStep_137 rfl rfl,
    s_iload X d10_barsStep_140 rfl,
    s_iload X d10_barsStep_142 rfl,
    s_iload X d10_barsStep_144 rfl,
    s_isub X d10_barsStep_146 rfl,
    s_callS ri_NW_ok X ⟨ri_cB X 1 mgw_1061 (List.mem_cons_of_mem _ mgw_12) (List.mem_cons_of_mem _ mgw_1059) (by decide +kernel) rfl rfl ⟨by decide, by decide⟩, X.2.2.2.2.1 _ (List.mem_cons_of_mem _ mgw_1060)⟩ d10_barsStep_147 rfl,
    s_icmp_ne X d10_barsStep_150 rfl rfl,
    s_iload X d10_barsStep_153 rfl,
    s_if_eq X d10_barsStep_155 rfl rfl,
    s_iload X d10_barsStep_158 rfl,
    s_bipush X d10_barsStep_160 rfl rfl,
    s_icmp_ne X d10_barsStep_162 rfl rfl,
    s_iload X d10_barsStep_165 rfl,
    s_sipush X d10_barsStep_167 rfl rfl,
    s_ior X d10_barsStep_170 rfl,
    s_istore X d10_barsStep_171 (by decide) rfl,
    s_iinc X d10_barsStep_173 rfl (by decide) rfl,
    s_goto X d10_barsStep_176 rfl,
    s_iload X d10_barsStep_179 rfl,
    s_bipush X d10_barsStep_181 rfl rfl,
    s_icmp_eq X d10_barsStep_183 rfl rfl,
    s_iload X d10_barsStep_186 rfl,
    s_bipush X d10_barsStep_188 rfl rfl,
    s_icmp_eq X d10_barsStep_190 rfl rfl,
    s_iload X d10_barsStep_193 rfl,
    s_bipush X d10_barsStep_195 rfl rfl,
    s_icmp_eq X d10_barsStep_197 rfl rfl,
    s_iload X d10_barsStep_200 rfl,
    s_bipush X d10_barsStep_202 rfl rfl,
    s_icmp_le X d10_barsStep_204 rfl rfl,
    s_iload X d10_barsStep_207 rfl,
    s_sipush X d10_barsStep_209 rfl rfl,
    s_ior X d10_barsStep_212 rfl,
    s_istore X d10_barsStep_213 (by decide) rfl,
    s_iload X d10_barsStep_215 rfl,
    s_if_le X d10_barsStep_217 rfl rfl,
    s_iload X d10_barsStep_220 rfl,
    s_aload_n X d10_barsStep_222 rfl rfl,
    s_get X (ci := 10) (f := 16) rfl (fun w h => List.mem_cons_of_mem _ (uC_10 w h)) (by decide) (List.mem_cons_of_mem _ mgw_830) d10_barsStep_223 rfl,
    s_iconst X d10_barsStep_226 rfl rfl,
    s_iload_n X d10_barsStep_227 rfl rfl,
    s_imul X d10_barsStep_228 rfl,
    s_iload X d10_barsStep_229 rfl,
    s_iadd X d10_barsStep_231 rfl,
    s_iconst X d10_barsStep_232 rfl rfl,
    s_isub X d10_barsStep_233 rfl,
    s_iald X rfl d10_barsStep_234 rfl,
    s_icmp_gt X d10_barsStep_235 rfl rfl,
    s_iload X d10_barsStep_238 rfl,
    s_iconst X d10_barsStep_240 rfl rfl,
    s_icmp_ge X d10_barsStep_241 rfl rfl,
    s_iload X d10_barsStep_244 rfl,
    s_aload_n X d10_barsStep_246 rfl rfl,
    s_get X (ci := 10) (f := 16) rfl (fun w h => List.mem_cons_of_mem _ (uC_10 w h)) (by decide) (List.mem_cons_of_mem _ mgw_830) d10_barsStep_247 rfl,
    s_iconst X d10_barsStep_250 rfl rfl,
    s_iload_n X d10_barsStep_251 rfl rfl,
    s_imul X d10_barsStep_252 rfl,
    s_iload X d10_barsStep_253 rfl,
    s_iadd X d10_barsStep_255 rfl,
    s_iconst X d10_barsStep_256 rfl rfl,
    s_iadd X d10_barsStep_257 rfl,
    s_iald X rfl d10_barsStep_258 rfl,
    s_icmp_ge X d10_barsStep_259 rfl rfl,
    s_iload X d10_barsStep_262 rfl,
    s_sipush X d10_barsStep_264 rfl rfl,
    s_ior X d10_barsStep_267 rfl,
    s_istore X d10_barsStep_268 (by decide) rfl,
    s_iload X d10_barsStep_270 rfl,
    s_if_eq X d10_barsStep_272 rfl rfl,
    s_iload X d10_barsStep_275 rfl,
    s_iconst X d10_barsStep_277 rfl rfl,
    s_icmp_ne X d10_barsStep_278 rfl rfl,
    s_iconst X d10_barsStep_281 rfl rfl,
    s_goto X d10_barsStep_282 rfl,
    s_iconst X d10_barsStep_285 rfl rfl,
    s_istore X d10_barsStep_286 (by decide) rfl,
    s_iload_n X d10_barsStep_288 rfl rfl,
    s_iconst X d10_barsStep_289 rfl rfl,
    s_icmp_eq X d10_barsStep_290 rfl rfl,
    s_iload_n X d10_barsStep_293 rfl rfl,
    s_bipush X d10_barsStep_294 rfl rfl,
    s_icmp_eq X d10_barsStep_296 rfl rfl,
    s_iload_n X d10_barsStep_299 rfl rfl,
    s_bipush X d10_barsStep_300 rfl rfl,
    s_icmp_ne X d10_barsStep_302 rfl rfl,
    s_iload X d10_barsStep_305 rfl,
    s_if_eq X d10_barsStep_307 rfl rfl,
    s_iload X d10_barsStep_310 rfl,
    s_iconst X d10_barsStep_312 rfl rfl,
    s_icmp_ne X d10_barsStep_313 rfl rfl,
    s_iload X d10_barsStep_316 rfl,
    s_if_eq X d10_barsStep_318 rfl rfl,
    s_aload_n X d10_barsStep_321 rfl rfl,
    s_iload X d10_barsStep_322 rfl,
    s_callV ri_NW_ok X (na := 1) (ci := 10) rfl ⟨ri_cB X 1 mgw_1004 (List.mem_cons_of_mem _ mgw_12) (List.mem_cons_of_mem _ mgw_1001) (by decide +kernel) rfl rfl ⟨by decide, by decide⟩, X.2.2.2.2.1 _ (List.mem_cons_of_mem _ mgw_1003), X.2.2.2.2.1 _ (List.mem_cons_of_mem _ mgp_81)⟩ d10_barsStep_324 rfl,
    s_bipush X d10_barsStep_327 rfl rfl,
    s_icmp_ne X d10_barsStep_329 rfl rfl,
    s_iload X d10_barsStep_332 rfl,
    s_iload X d10_barsStep_334 rfl,
    s_iconst X d10_barsStep_336 rfl rfl,
    s_iadd X d10_barsStep_337 rfl,
    s_icmp_eq X d10_barsStep_338 rfl rfl,
    s_iload X d10_barsStep_341 rfl,
    s_sipush X d10_barsStep_343 rfl rfl,
    s_ior X d10_barsStep_346 rfl,
    s_istore X d10_barsStep_347 (by decide) rfl,
    s_iload_n X d10_barsStep_349 rfl rfl,
    s_iload X d10_barsStep_350 rfl,
    s_icmp_eq X d10_barsStep_352 rfl rfl,
    s_aload_n X d10_barsStep_355 rfl rfl,
    s_iload_n X d10_barsStep_356 rfl rfl,
    s_iload X d10_barsStep_357 rfl,
    s_callV ri_NW_ok X (na := 2) (ci := 10) rfl ⟨ri_cB X 2 mgw_1000 (List.mem_cons_of_mem _ mgw_12) (List.mem_cons_of_mem _ mgw_997) (by decide +kernel) rfl rfl ⟨by decide, by decide⟩, X.2.2.2.2.1 _ (List.mem_cons_of_mem _ mgw_999), X.2.2.2.2.1 _ (List.mem_cons_of_mem _ mgp_80)⟩ d10_barsStep_359 rfl,
    s_iconst X d10_barsStep_362 rfl rfl,
    s_icmp_ne X d10_barsStep_363 rfl rfl,
    s_iload X d10_barsStep_366 rfl,
    s_iload X d10_barsStep_368 rfl,
    s_icmp_eq X d10_barsStep_370 rfl rfl,
    s_iload X d10_barsStep_373 rfl,
    s_iload X d10_barsStep_375 rfl,
    s_iconst X d10_barsStep_377 rfl rfl,
    s_isub X d10_barsStep_378 rfl,
    s_icmp_eq X d10_barsStep_379 rfl rfl,
    s_iload X d10_barsStep_382 rfl,
    s_iload X d10_barsStep_384 rfl,
    s_iconst X d10_barsStep_386 rfl rfl,
    s_isub X d10_barsStep_387 rfl,
    s_icmp_eq X d10_barsStep_388 rfl rfl,
    s_iload X d10_barsStep_391 rfl,
    s_sipush X d10_barsStep_393 rfl rfl,
    s_ior X d10_barsStep_396 rfl,
    s_istore X d10_barsStep_397 (by decide) rfl,
    s_iinc X d10_barsStep_399 rfl (by decide) rfl,
    s_goto X d10_barsStep_402 rfl,
    s_iload X d10_barsStep_405 rfl,
    s_iret X hret hlocks d10_barsStep_407, trivial⟩
theorem d10_units_0 : decode c10_units 0 = .ok (.iload_n 0, 1) := by decide +kernel
theorem d10_units_1 : decode c10_units 1 = .ok (.iload_n 1, 1) := by decide +kernel
theorem d10_units_2 : decode c10_units 2 = .ok (.if_icmp .ne 5, 3) := by decide +kernel
theorem d10_units_5 : decode c10_units 5 = .ok (.iconst 3, 1) := by decide +kernel
theorem d10_units_6 : decode c10_units 6 = .ok (.ireturn, 1) := by decide +kernel
theorem d10_units_7 : decode c10_units 7 = .ok (.iload_n 1, 1) := by decide +kernel
theorem d10_units_8 : decode c10_units 8 = .ok (.invokestatic 179, 3) := by decide +kernel
theorem d10_units_11 : decode c10_units 11 = .ok (.istore_n 2, 1) := by decide +kernel
theorem d10_units_12 : decode c10_units 12 = .ok (.iload_n 0, 1) := by decide +kernel
theorem d10_units_13 : decode c10_units 13 = .ok (.invokestatic 179, 3) := by decide +kernel
theorem d10_units_16 : decode c10_units 16 = .ok (.tableswitch 143 0 2 #[28, 38, 80], 28) := by decide +kernel
theorem d10_units_44 : decode c10_units 44 = .ok (.iload_n 2, 1) := by decide +kernel
theorem d10_units_45 : decode c10_units 45 = .ok (.ifCond .ne 7, 3) := by decide +kernel
theorem d10_units_48 : decode c10_units 48 = .ok (.iconst 2, 1) := by decide +kernel
theorem d10_units_49 : decode c10_units 49 = .ok (.goto 4, 3) := by decide +kernel
theorem d10_units_52 : decode c10_units 52 = .ok (.iconst 0, 1) := by decide +kernel
theorem d10_units_53 : decode c10_units 53 = .ok (.ireturn, 1) := by decide +kernel
theorem d10_units_54 : decode c10_units 54 = .ok (.iload_n 2, 1) := by decide +kernel
theorem d10_units_55 : decode c10_units 55 = .ok (.iconst 2, 1) := by decide +kernel
theorem d10_units_56 : decode c10_units 56 = .ok (.if_icmp .ne 7, 3) := by decide +kernel
theorem d10_units_59 : decode c10_units 59 = .ok (.iconst 0, 1) := by decide +kernel
theorem d10_units_60 : decode c10_units 60 = .ok (.goto 35, 3) := by decide +kernel
theorem d10_units_63 : decode c10_units 63 = .ok (.iload_n 2, 1) := by decide +kernel
theorem d10_units_64 : decode c10_units 64 = .ok (.iconst 1, 1) := by decide +kernel
theorem d10_units_65 : decode c10_units 65 = .ok (.if_icmp .ne 7, 3) := by decide +kernel
theorem d10_units_68 : decode c10_units 68 = .ok (.iconst 2, 1) := by decide +kernel
theorem d10_units_69 : decode c10_units 69 = .ok (.goto 26, 3) := by decide +kernel
theorem d10_units_72 : decode c10_units 72 = .ok (.iload_n 2, 1) := by decide +kernel
theorem d10_units_73 : decode c10_units 73 = .ok (.iconst 3, 1) := by decide +kernel
theorem d10_units_74 : decode c10_units 74 = .ok (.if_icmp .ne 7, 3) := by decide +kernel
theorem d10_units_77 : decode c10_units 77 = .ok (.iconst 1, 1) := by decide +kernel
theorem d10_units_78 : decode c10_units 78 = .ok (.goto 17, 3) := by decide +kernel
theorem d10_units_81 : decode c10_units 81 = .ok (.iload_n 0, 1) := by decide +kernel
theorem d10_units_82 : decode c10_units 82 = .ok (.iconst 3, 1) := by decide +kernel
theorem d10_units_83 : decode c10_units 83 = .ok (.if_icmp .ne 11, 3) := by decide +kernel
theorem d10_units_86 : decode c10_units 86 = .ok (.iload_n 1, 1) := by decide +kernel
theorem d10_units_87 : decode c10_units 87 = .ok (.ifCond .ne 7, 3) := by decide +kernel
theorem d10_units_90 : decode c10_units 90 = .ok (.iconst 2, 1) := by decide +kernel
theorem d10_units_91 : decode c10_units 91 = .ok (.goto 4, 3) := by decide +kernel
theorem d10_units_94 : decode c10_units 94 = .ok (.iconst 4, 1) := by decide +kernel
theorem d10_units_95 : decode c10_units 95 = .ok (.ireturn, 1) := by decide +kernel
theorem d10_units_96 : decode c10_units 96 = .ok (.iload_n 2, 1) := by decide +kernel
theorem d10_units_97 : decode c10_units 97 = .ok (.ifCond .ne 22, 3) := by decide +kernel
theorem d10_units_100 : decode c10_units 100 = .ok (.iload_n 1, 1) := by decide +kernel
theorem d10_units_101 : decode c10_units 101 = .ok (.ifCond .ne 7, 3) := by decide +kernel
theorem d10_units_104 : decode c10_units 104 = .ok (.iconst 0, 1) := by decide +kernel
theorem d10_units_105 : decode c10_units 105 = .ok (.goto 13, 3) := by decide +kernel
theorem d10_units_108 : decode c10_units 108 = .ok (.iload_n 1, 1) := by decide +kernel
theorem d10_units_109 : decode c10_units 109 = .ok (.iconst 5, 1) := by decide +kernel
theorem d10_units_110 : decode c10_units 110 = .ok (.if_icmp .ne 7, 3) := by decide +kernel
theorem d10_units_113 : decode c10_units 113 = .ok (.iconst 2, 1) := by decide +kernel
theorem d10_units_114 : decode c10_units 114 = .ok (.goto 4, 3) := by decide +kernel
theorem d10_units_117 : decode c10_units 117 = .ok (.iconst (-1), 1) := by decide +kernel
theorem d10_units_118 : decode c10_units 118 = .ok (.ireturn, 1) := by decide +kernel
theorem d10_units_119 : decode c10_units 119 = .ok (.iload_n 2, 1) := by decide +kernel
theorem d10_units_120 : decode c10_units 120 = .ok (.iconst 2, 1) := by decide +kernel
theorem d10_units_121 : decode c10_units 121 = .ok (.if_icmp .ne 17, 3) := by decide +kernel
theorem d10_units_124 : decode c10_units 124 = .ok (.iload_n 0, 1) := by decide +kernel
theorem d10_units_125 : decode c10_units 125 = .ok (.bipush 7, 2) := by decide +kernel
theorem d10_units_127 : decode c10_units 127 = .ok (.if_icmp .ne 7, 3) := by decide +kernel
theorem d10_units_130 : decode c10_units 130 = .ok (.iconst 3, 1) := by decide +kernel
theorem d10_units_131 : decode c10_units 131 = .ok (.goto 27, 3) := by decide +kernel
theorem d10_units_134 : decode c10_units 134 = .ok (.iconst 1, 1) := by decide +kernel
theorem d10_units_135 : decode c10_units 135 = .ok (.goto 23, 3) := by decide +kernel
theorem d10_units_138 : decode c10_units 138 = .ok (.iload_n 2, 1) := by decide +kernel
theorem d10_units_139 : decode c10_units 139 = .ok (.iconst 1, 1) := by decide +kernel
theorem d10_units_140 : decode c10_units 140 = .ok (.if_icmp .ne 7, 3) := by decide +kernel
theorem d10_units_143 : decode c10_units 143 = .ok (.iconst (-1), 1) := by decide +kernel
theorem d10_units_144 : decode c10_units 144 = .ok (.goto 14, 3) := by decide +kernel
theorem d10_units_147 : decode c10_units 147 = .ok (.iload_n 1, 1) := by decide +kernel
theorem d10_units_148 : decode c10_units 148 = .ok (.bipush 12, 2) := by decide +kernel
theorem d10_units_150 : decode c10_units 150 = .ok (.if_icmp .ne 7, 3) := by decide +kernel
theorem d10_units_153 : decode c10_units 153 = .ok (.iconst 2, 1) := by decide +kernel
theorem d10_units_154 : decode c10_units 154 = .ok (.goto 4, 3) := by decide +kernel
theorem d10_units_157 : decode c10_units 157 = .ok (.iconst (-1), 1) := by decide +kernel
theorem d10_units_158 : decode c10_units 158 = .ok (.ireturn, 1) := by decide +kernel
theorem d10_units_159 : decode c10_units 159 = .ok (.iload_n 0, 1) := by decide +kernel
theorem d10_units_160 : decode c10_units 160 = .ok (.bipush 9, 2) := by decide +kernel
theorem d10_units_162 : decode c10_units 162 = .ok (.if_icmp .eq 9, 3) := by decide +kernel
theorem d10_units_165 : decode c10_units 165 = .ok (.iload_n 0, 1) := by decide +kernel
theorem d10_units_166 : decode c10_units 166 = .ok (.bipush 10, 2) := by decide +kernel
theorem d10_units_168 : decode c10_units 168 = .ok (.if_icmp .ne 14, 3) := by decide +kernel
theorem d10_units_171 : decode c10_units 171 = .ok (.iload_n 1, 1) := by decide +kernel
theorem d10_units_172 : decode c10_units 172 = .ok (.iconst 4, 1) := by decide +kernel
theorem d10_units_173 : decode c10_units 173 = .ok (.if_icmp .eq 31, 3) := by decide +kernel
theorem d10_units_176 : decode c10_units 176 = .ok (.iload_n 1, 1) := by decide +kernel
theorem d10_units_177 : decode c10_units 177 = .ok (.bipush 7, 2) := by decide +kernel
theorem d10_units_179 : decode c10_units 179 = .ok (.if_icmp .eq 25, 3) := by decide +kernel
theorem d10_units_182 : decode c10_units 182 = .ok (.iload_n 0, 1) := by decide +kernel
theorem d10_units_183 : decode c10_units 183 = .ok (.bipush 11, 2) := by decide +kernel
theorem d10_units_185 : decode c10_units 185 = .ok (.if_icmp .ne 8, 3) := by decide +kernel
theorem d10_units_188 : decode c10_units 188 = .ok (.iload_n 1, 1) := by decide +kernel
theorem d10_units_189 : decode c10_units 189 = .ok (.iconst 5, 1) := by decide +kernel
theorem d10_units_190 : decode c10_units 190 = .ok (.if_icmp .eq 14, 3) := by decide +kernel
theorem d10_units_193 : decode c10_units 193 = .ok (.iload_n 0, 1) := by decide +kernel
theorem d10_units_194 : decode c10_units 194 = .ok (.bipush 12, 2) := by decide +kernel
theorem d10_units_196 : decode c10_units 196 = .ok (.if_icmp .ne 12, 3) := by decide +kernel
theorem d10_units_199 : decode c10_units 199 = .ok (.iload_n 1, 1) := by decide +kernel
theorem d10_units_200 : decode c10_units 200 = .ok (.iconst 3, 1) := by decide +kernel
theorem d10_units_201 : decode c10_units 201 = .ok (.if_icmp .ne 7, 3) := by decide +kernel
theorem d10_units_204 : decode c10_units 204 = .ok (.iconst 1, 1) := by decide +kernel
theorem d10_units_205 : decode c10_units 205 = .ok (.goto 4, 3) := by decide +kernel
theorem d10_units_208 : decode c10_units 208 = .ok (.iconst 0, 1) := by decide +kernel
theorem d10_units_209 : decode c10_units 209 = .ok (.istore_n 3, 1) := by decide +kernel
theorem d10_units_210 : decode c10_units 210 = .ok (.iload_n 3, 1) := by decide +kernel
theorem d10_units_211 : decode c10_units 211 = .ok (.ifCond .eq 7, 3) := by decide +kernel
theorem d10_units_214 : decode c10_units 214 = .ok (.iconst 0, 1) := by decide +kernel
theorem d10_units_215 : decode c10_units 215 = .ok (.goto 20, 3) := by decide +kernel
theorem d10_units_218 : decode c10_units 218 = .ok (.iload_n 0, 1) := by decide +kernel
theorem d10_units_219 : decode c10_units 219 = .ok (.bipush 9, 2) := by decide +kernel
theorem d10_units_221 : decode c10_units 221 = .ok (.if_icmp .ne 13, 3) := by decide +kernel
theorem d10_units_224 : decode c10_units 224 = .ok (.iload_n 1, 1) := by decide +kernel
theorem d10_units_225 : decode c10_units 225 = .ok (.bipush 10, 2) := by decide +kernel
theorem d10_units_227 : decode c10_units 227 = .ok (.if_icmp .ne 7, 3) := by decide +kernel
theorem d10_units_230 : decode c10_units 230 = .ok (.iconst 1, 1) := by decide +kernel
theorem d10_units_231 : decode c10_units 231 = .ok (.goto 4, 3) := by decide +kernel
theorem d10_units_234 : decode c10_units 234 = .ok (.iconst (-1), 1) := by decide +kernel
theorem d10_units_235 : decode c10_units 235 = .ok (.ireturn, 1) := by decide +kernel
def t10_units (l : Launch) (Po : ri_O) : List ri_S := [i_il 1 0,
  i_il 2 1,
  i_icmp 3 5 (fun x y => ¬ x = y),
  i_con 4 3,
  i_ret Po 0 0,
  i_il 6 1,
  i_call 7 1 (ri_Ev l y10_function w10_function r10_function 0 0) 0 0 0 0,
  i_is 8 2,
  i_il 9 0,
  i_call 10 1 (ri_Ev l y10_function w10_function r10_function 0 0) 0 0 0 0,
  i_sw [(0, 11), (1, 17), (2, 41)] 76,
  i_il 12 2,
  i_if 13 15 (fun x => ¬ x = 0),
  i_con 14 2,
  i_goto 16,
  i_con 16 0,
  i_ret Po 0 0,
  i_il 18 2,
  i_con 19 2,
  i_icmp 20 22 (fun x y => ¬ x = y),
  i_con 21 0,
  i_goto 40,
  i_il 23 2,
  i_con 24 1,
  i_icmp 25 27 (fun x y => ¬ x = y),
  i_con 26 2,
  i_goto 40,
  i_il 28 2,
  i_con 29 3,
  i_icmp 30 32 (fun x y => ¬ x = y),
  i_con 31 1,
  i_goto 40,
  i_il 33 0,
  i_con 34 3,
  i_icmp 35 39 (fun x y => ¬ x = y),
  i_il 36 1,
  i_if 37 39 (fun x => ¬ x = 0),
  i_con 38 2,
  i_goto 40,
  i_con 40 4,
  i_ret Po 0 0,
  i_il 42 2,
  i_if 43 54 (fun x => ¬ x = 0),
  i_il 44 1,
  i_if 45 47 (fun x => ¬ x = 0),
  i_con 46 0,
  i_goto 53,
  i_il 48 1,
  i_con 49 5,
  i_icmp 50 52 (fun x y => ¬ x = y),
  i_con 51 2,
  i_goto 53,
  i_con 53 (-1),
  i_ret Po 0 0,
  i_il 55 2,
  i_con 56 2,
  i_icmp 57 64 (fun x y => ¬ x = y),
  i_il 58 0,
  i_con 59 7,
  i_icmp 60 62 (fun x y => ¬ x = y),
  i_con 61 3,
  i_goto 75,
  i_con 63 1,
  i_goto 75,
  i_il 65 2,
  i_con 66 1,
  i_icmp 67 69 (fun x y => ¬ x = y),
  i_con 68 (-1),
  i_goto 75,
  i_il 70 1,
  i_con 71 12,
  i_icmp 72 74 (fun x y => ¬ x = y),
  i_con 73 2,
  i_goto 75,
  i_con 75 (-1),
  i_ret Po 0 0,
  i_il 77 0,
  i_con 78 9,
  i_icmp 79 82 (fun x y => x = y),
  i_il 80 0,
  i_con 81 10,
  i_icmp 82 88 (fun x y => ¬ x = y),
  i_il 83 1,
  i_con 84 4,
  i_icmp 85 100 (fun x y => x = y),
  i_il 86 1,
  i_con 87 7,
  i_icmp 88 100 (fun x y => x = y),
  i_il 89 0,
  i_con 90 11,
  i_icmp 91 94 (fun x y => ¬ x = y),
  i_il 92 1,
  i_con 93 5,
  i_icmp 94 100 (fun x y => x = y),
  i_il 95 0,
  i_con 96 12,
  i_icmp 97 102 (fun x y => ¬ x = y),
  i_il 98 1,
  i_con 99 3,
  i_icmp 100 102 (fun x y => ¬ x = y),
  i_con 101 1,
  i_goto 103,
  i_con 103 0,
  i_is 104 3,
  i_il 105 3,
  i_if 106 108 (fun x => x = 0),
  i_con 107 0,
  i_goto 117,
  i_il 109 0,
  i_con 110 9,
  i_icmp 111 116 (fun x y => ¬ x = y),
  i_il 112 1,
  i_con 113 10,
  i_icmp 114 116 (fun x y => ¬ x = y),
  i_con 115 1,
  i_goto 117,
  i_con 117 (-1),
  i_ret Po 0 0]
set_option maxRecDepth 20000 in
set_option maxHeartbeats 4000000 in
theorem z10_units (l : Launch) (Po : ri_O) (p : Program) (e : Env) (s : State) (m : MethodId) (args : Array Value) (below : List Frame) (meth : Method) (c : Code) (D : va_G) (ka : Nat → ClassId) (sa : Nat → Nat) (base : Nat) (X : ri_X p s m args c c10_units 4 w10_units "ChoraleSearchModel" D ka sa base) (hret : meth.sig.returnType = (some .int)) (hlocks : meth.locks = false) (hname : meth.name = "units") : ri_clo (ri_W p l e r10_units s m args below meth c D ka sa base 4 (MQ below (ri_Qc D ka sa base Po) args s 0 0 (fun q => base ≤ q)) p10_units) (t10_units l Po) := by
  refine ri_clo_of ?_
  unfold t10_units
  exact ⟨s_iload_n X d10_units_0 rfl rfl,
    s_iload_n X d10_units_1 rfl rfl,
    s_icmp_ne X d10_units_2 rfl rfl,
    s_iconst X d10_units_5 rfl rfl,
    s_iret X hret hlocks d10_units_6,
    s_iload_n X d10_units_7 rfl rfl,
    s_callS ri_NW_ok X ⟨ri_cB X 1 mgw_1055 (List.mem_cons_of_mem _ mgw_12) (List.mem_cons_of_mem _ mgw_1053) (by decide +kernel) rfl rfl ⟨by decide, by decide⟩, X.2.2.2.2.1 _ (List.mem_cons_of_mem _ mgw_1054)⟩ d10_units_8 rfl,
    s_istore_n X d10_units_11 rfl (by decide) rfl,
    s_iload_n X d10_units_12 rfl rfl,
    s_callS ri_NW_ok X ⟨ri_cB X 1 mgw_1055 (List.mem_cons_of_mem _ mgw_12) (List.mem_cons_of_mem _ mgw_1053) (by decide +kernel) rfl rfl ⟨by decide, by decide⟩, X.2.2.2.2.1 _ (List.mem_cons_of_mem _ mgw_1054)⟩ d10_units_13 rfl,
    s_tsw X d10_units_16 rfl (by decide) (by decide) (by decide),
    s_iload_n X d10_units_44 rfl rfl,
    s_if_ne X d10_units_45 rfl rfl,
    s_iconst X d10_units_48 rfl rfl,
    s_goto X d10_units_49 rfl,
    s_iconst X d10_units_52 rfl rfl,
    s_iret X hret hlocks d10_units_53,
    s_iload_n X d10_units_54 rfl rfl,
    s_iconst X d10_units_55 rfl rfl,
    s_icmp_ne X d10_units_56 rfl rfl,
    s_iconst X d10_units_59 rfl rfl,
    s_goto X d10_units_60 rfl,
    s_iload_n X d10_units_63 rfl rfl,
    s_iconst X d10_units_64 rfl rfl,
    s_icmp_ne X d10_units_65 rfl rfl,
    s_iconst X d10_units_68 rfl rfl,
    s_goto X d10_units_69 rfl,
    s_iload_n X d10_units_72 rfl rfl,
    s_iconst X d10_units_73 rfl rfl,
    s_icmp_ne X d10_units_74 rfl rfl,
    s_iconst X d10_units_77 rfl rfl,
    s_goto X d10_units_78 rfl,
    s_iload_n X d10_units_81 rfl rfl,
    s_iconst X d10_units_82 rfl rfl,
    s_icmp_ne X d10_units_83 rfl rfl,
    s_iload_n X d10_units_86 rfl rfl,
    s_if_ne X d10_units_87 rfl rfl,
    s_iconst X d10_units_90 rfl rfl,
    s_goto X d10_units_91 rfl,
    s_iconst X d10_units_94 rfl rfl,
    s_iret X hret hlocks d10_units_95,
    s_iload_n X d10_units_96 rfl rfl,
    s_if_ne X d10_units_97 rfl rfl,
    s_iload_n X d10_units_100 rfl rfl,
    s_if_ne X d10_units_101 rfl rfl,
    s_iconst X d10_units_104 rfl rfl,
    s_goto X d10_units_105 rfl,
    s_iload_n X d10_units_108 rfl rfl,
    s_iconst X d10_units_109 rfl rfl,
    s_icmp_ne X d10_units_110 rfl rfl,
    s_iconst X d10_units_113 rfl rfl,
    s_goto X d10_units_114 rfl,
    s_iconst X d10_units_117 rfl rfl,
    s_iret X hret hlocks d10_units_118,
    s_iload_n X d10_units_119 rfl rfl,
    s_iconst X d10_units_120 rfl rfl,
    s_icmp_ne X d10_units_121 rfl rfl,
    s_iload_n X d10_units_124 rfl rfl,
    s_bipush X d10_units_125 rfl rfl,
    s_icmp_ne X d10_units_127 rfl rfl,
    s_iconst X d10_units_130 rfl rfl,
    s_goto X d10_units_131 rfl,
    s_iconst X d10_units_134 rfl rfl,
    s_goto X d10_units_135 rfl,
    s_iload_n X d10_units_138 rfl rfl,
    s_iconst X d10_units_139 rfl rfl,
    s_icmp_ne X d10_units_140 rfl rfl,
    s_iconst X d10_units_143 rfl rfl,
    s_goto X d10_units_144 rfl,
    s_iload_n X d10_units_147 rfl rfl,
    s_bipush X d10_units_148 rfl rfl,
    s_icmp_ne X d10_units_150 rfl rfl,
    s_iconst X d10_units_153 rfl rfl,
    s_goto X d10_units_154 rfl,
    s_iconst X d10_units_157 rfl rfl,
    s_iret X hret hlocks d10_units_158,
    s_iload_n X d10_units_159 rfl rfl,
    s_bipush X d10_units_160 rfl rfl,
    s_icmp_eq X d10_units_162 rfl rfl,
    s_iload_n X d10_units_165 rfl rfl,
    s_bipush X d10_units_166 rfl rfl,
    s_icmp_ne X d10_units_168 rfl rfl,
    s_iload_n X d10_units_171 rfl rfl,
    s_iconst X d10_units_172 rfl rfl,
    s_icmp_eq X d10_units_173 rfl rfl,
    s_iload_n X d10_units_176 rfl rfl,
    s_bipush X d10_units_177 rfl rfl,
    s_icmp_eq X d10_units_179 rfl rfl,
    s_iload_n X d10_units_182 rfl rfl,
    s_bipush X d10_units_183 rfl rfl,
    s_icmp_ne X d10_units_185 rfl rfl,
    s_iload_n X d10_units_188 rfl rfl,
    s_iconst X d10_units_189 rfl rfl,
    s_icmp_eq X d10_units_190 rfl rfl,
    s_iload_n X d10_units_193 rfl rfl,
    s_bipush X d10_units_194 rfl rfl,
    s_icmp_ne X d10_units_196 rfl rfl,
    s_iload_n X d10_units_199 rfl rfl,
    s_iconst X d10_units_200 rfl rfl,
    s_icmp_ne X d10_units_201 rfl rfl,
    s_iconst X d10_units_204 rfl rfl,
    s_goto X d10_units_205 rfl,
    s_iconst X d10_units_208 rfl rfl,
    s_istore_n X d10_units_209 rfl (by decide) rfl,
    s_iload_n X d10_units_210 rfl rfl,
    s_if_eq X d10_units_211 rfl rfl,
    s_iconst X d10_units_214 rfl rfl,
    s_goto X d10_units_215 rfl,
    s_iload_n X d10_units_218 rfl rfl,
    s_bipush X d10_units_219 rfl rfl,
    s_icmp_ne X d10_units_221 rfl rfl,
    s_iload_n X d10_units_224 rfl rfl,
    s_bipush X d10_units_225 rfl rfl,
    s_icmp_ne X d10_units_227 rfl rfl,
    s_iconst X d10_units_230 rfl rfl,
    s_goto X d10_units_231 rfl,
    s_iconst X d10_units_234 rfl rfl,
    s_iret X hret hlocks d10_units_235, trivial⟩
theorem d10_function_0 : decode c10_function 0 = .ok (.iload_n 0, 1) := by decide +kernel
theorem d10_function_1 : decode c10_function 1 = .ok (.ifCond .eq 13, 3) := by decide +kernel
theorem d10_function_4 : decode c10_function 4 = .ok (.iload_n 0, 1) := by decide +kernel
theorem d10_function_5 : decode c10_function 5 = .ok (.iconst 2, 1) := by decide +kernel
theorem d10_function_6 : decode c10_function 6 = .ok (.if_icmp .eq 8, 3) := by decide +kernel
theorem d10_function_9 : decode c10_function 9 = .ok (.iload_n 0, 1) := by decide +kernel
theorem d10_function_10 : decode c10_function 10 = .ok (.iconst 5, 1) := by decide +kernel
theorem d10_function_11 : decode c10_function 11 = .ok (.if_icmp .ne 7, 3) := by decide +kernel
theorem d10_function_14 : decode c10_function 14 = .ok (.iconst 0, 1) := by decide +kernel
theorem d10_function_15 : decode c10_function 15 = .ok (.goto 45, 3) := by decide +kernel
theorem d10_function_18 : decode c10_function 18 = .ok (.iload_n 0, 1) := by decide +kernel
theorem d10_function_19 : decode c10_function 19 = .ok (.iconst 1, 1) := by decide +kernel
theorem d10_function_20 : decode c10_function 20 = .ok (.if_icmp .eq 14, 3) := by decide +kernel
theorem d10_function_23 : decode c10_function 23 = .ok (.iload_n 0, 1) := by decide +kernel
theorem d10_function_24 : decode c10_function 24 = .ok (.iconst 3, 1) := by decide +kernel
theorem d10_function_25 : decode c10_function 25 = .ok (.if_icmp .eq 9, 3) := by decide +kernel
theorem d10_function_28 : decode c10_function 28 = .ok (.iload_n 0, 1) := by decide +kernel
theorem d10_function_29 : decode c10_function 29 = .ok (.bipush 8, 2) := by decide +kernel
theorem d10_function_31 : decode c10_function 31 = .ok (.if_icmp .ne 7, 3) := by decide +kernel
theorem d10_function_34 : decode c10_function 34 = .ok (.iconst 1, 1) := by decide +kernel
theorem d10_function_35 : decode c10_function 35 = .ok (.goto 25, 3) := by decide +kernel
theorem d10_function_38 : decode c10_function 38 = .ok (.iload_n 0, 1) := by decide +kernel
theorem d10_function_39 : decode c10_function 39 = .ok (.iconst 4, 1) := by decide +kernel
theorem d10_function_40 : decode c10_function 40 = .ok (.if_icmp .eq 15, 3) := by decide +kernel
theorem d10_function_43 : decode c10_function 43 = .ok (.iload_n 0, 1) := by decide +kernel
theorem d10_function_44 : decode c10_function 44 = .ok (.bipush 6, 2) := by decide +kernel
theorem d10_function_46 : decode c10_function 46 = .ok (.if_icmp .eq 9, 3) := by decide +kernel
theorem d10_function_49 : decode c10_function 49 = .ok (.iload_n 0, 1) := by decide +kernel
theorem d10_function_50 : decode c10_function 50 = .ok (.bipush 7, 2) := by decide +kernel
theorem d10_function_52 : decode c10_function 52 = .ok (.if_icmp .ne 7, 3) := by decide +kernel
theorem d10_function_55 : decode c10_function 55 = .ok (.iconst 2, 1) := by decide +kernel
theorem d10_function_56 : decode c10_function 56 = .ok (.goto 4, 3) := by decide +kernel
theorem d10_function_59 : decode c10_function 59 = .ok (.iconst 3, 1) := by decide +kernel
theorem d10_function_60 : decode c10_function 60 = .ok (.ireturn, 1) := by decide +kernel
def t10_function (l : Launch) (Po : ri_O) : List ri_S := [i_il 1 0,
  i_if 2 8 (fun x => x = 0),
  i_il 3 0,
  i_con 4 2,
  i_icmp 5 8 (fun x y => x = y),
  i_il 6 0,
  i_con 7 5,
  i_icmp 8 10 (fun x y => ¬ x = y),
  i_con 9 0,
  i_goto 33,
  i_il 11 0,
  i_con 12 1,
  i_icmp 13 19 (fun x y => x = y),
  i_il 14 0,
  i_con 15 3,
  i_icmp 16 19 (fun x y => x = y),
  i_il 17 0,
  i_con 18 8,
  i_icmp 19 21 (fun x y => ¬ x = y),
  i_con 20 1,
  i_goto 33,
  i_il 22 0,
  i_con 23 4,
  i_icmp 24 30 (fun x y => x = y),
  i_il 25 0,
  i_con 26 6,
  i_icmp 27 30 (fun x y => x = y),
  i_il 28 0,
  i_con 29 7,
  i_icmp 30 32 (fun x y => ¬ x = y),
  i_con 31 2,
  i_goto 33,
  i_con 33 3,
  i_ret Po 0 0]
set_option maxRecDepth 20000 in
set_option maxHeartbeats 4000000 in
theorem z10_function (l : Launch) (Po : ri_O) (p : Program) (e : Env) (s : State) (m : MethodId) (args : Array Value) (below : List Frame) (meth : Method) (c : Code) (D : va_G) (ka : Nat → ClassId) (sa : Nat → Nat) (base : Nat) (X : ri_X p s m args c c10_function 1 w10_function "ChoraleSearchModel" D ka sa base) (hret : meth.sig.returnType = (some .int)) (hlocks : meth.locks = false) (hname : meth.name = "function") : ri_clo (ri_W p l e r10_function s m args below meth c D ka sa base 1 (MQ below (ri_Qc D ka sa base Po) args s 0 0 (fun q => base ≤ q)) p10_function) (t10_function l Po) := by
  refine ri_clo_of ?_
  unfold t10_function
  exact ⟨s_iload_n X d10_function_0 rfl rfl,
    s_if_eq X d10_function_1 rfl rfl,
    s_iload_n X d10_function_4 rfl rfl,
    s_iconst X d10_function_5 rfl rfl,
    s_icmp_eq X d10_function_6 rfl rfl,
    s_iload_n X d10_function_9 rfl rfl,
    s_iconst X d10_function_10 rfl rfl,
    s_icmp_ne X d10_function_11 rfl rfl,
    s_iconst X d10_function_14 rfl rfl,
    s_goto X d10_function_15 rfl,
    s_iload_n X d10_function_18 rfl rfl,
    s_iconst X d10_function_19 rfl rfl,
    s_icmp_eq X d10_function_20 rfl rfl,
    s_iload_n X d10_function_23 rfl rfl,
    s_iconst X d10_function_24 rfl rfl,
    s_icmp_eq X d10_function_25 rfl rfl,
    s_iload_n X d10_function_28 rfl rfl,
    s_bipush X d10_function_29 rfl rfl,
    s_icmp_ne X d10_function_31 rfl rfl,
    s_iconst X d10_function_34 rfl rfl,
    s_goto X d10_function_35 rfl,
    s_iload_n X d10_function_38 rfl rfl,
    s_iconst X d10_function_39 rfl rfl,
    s_icmp_eq X d10_function_40 rfl rfl,
    s_iload_n X d10_function_43 rfl rfl,
    s_bipush X d10_function_44 rfl rfl,
    s_icmp_eq X d10_function_46 rfl rfl,
    s_iload_n X d10_function_49 rfl rfl,
    s_bipush X d10_function_50 rfl rfl,
    s_icmp_ne X d10_function_52 rfl rfl,
    s_iconst X d10_function_55 rfl rfl,
    s_goto X d10_function_56 rfl,
    s_iconst X d10_function_59 rfl rfl,
    s_iret X hret hlocks d10_function_60, trivial⟩
theorem d10_size_0 : decode c10_size 0 = .ok (.iload_n 0, 1) := by decide +kernel
theorem d10_size_1 : decode c10_size 1 = .ok (.ifCond .ge 8, 3) := by decide +kernel
theorem d10_size_4 : decode c10_size 4 = .ok (.iload_n 0, 1) := by decide +kernel
theorem d10_size_5 : decode c10_size 5 = .ok (.ineg, 1) := by decide +kernel
theorem d10_size_6 : decode c10_size 6 = .ok (.goto 4, 3) := by decide +kernel
theorem d10_size_9 : decode c10_size 9 = .ok (.iload_n 0, 1) := by decide +kernel
theorem d10_size_10 : decode c10_size 10 = .ok (.ireturn, 1) := by decide +kernel
def t10_size (l : Launch) (Po : ri_O) : List ri_S := [i_il 1 0,
  i_if 2 5 (fun x => 0 ≤ x),
  i_il 3 0,
  i_un 4 (fun x => -x),
  i_goto 6,
  i_il 6 0,
  i_ret Po 0 0]
set_option maxRecDepth 20000 in
set_option maxHeartbeats 4000000 in
theorem z10_size (l : Launch) (Po : ri_O) (p : Program) (e : Env) (s : State) (m : MethodId) (args : Array Value) (below : List Frame) (meth : Method) (c : Code) (D : va_G) (ka : Nat → ClassId) (sa : Nat → Nat) (base : Nat) (X : ri_X p s m args c c10_size 1 w10_size "ChoraleSearchModel" D ka sa base) (hret : meth.sig.returnType = (some .int)) (hlocks : meth.locks = false) (hname : meth.name = "size") : ri_clo (ri_W p l e r10_size s m args below meth c D ka sa base 1 (MQ below (ri_Qc D ka sa base Po) args s 0 0 (fun q => base ≤ q)) p10_size) (t10_size l Po) := by
  refine ri_clo_of ?_
  unfold t10_size
  exact ⟨s_iload_n X d10_size_0 rfl rfl,
    s_if_ge X d10_size_1 rfl rfl,
    s_iload_n X d10_size_4 rfl rfl,
    s_ineg X d10_size_5 rfl,
    s_goto X d10_size_6 rfl,
    s_iload_n X d10_size_9 rfl rfl,
    s_iret X hret hlocks d10_size_10, trivial⟩
theorem d10_apart_0 : decode c10_apart 0 = .ok (.iload_n 0, 1) := by decide +kernel
theorem d10_apart_1 : decode c10_apart 1 = .ok (.bipush 12, 2) := by decide +kernel
theorem d10_apart_3 : decode c10_apart 3 = .ok (.irem, 1) := by decide +kernel
theorem d10_apart_4 : decode c10_apart 4 = .ok (.bipush 12, 2) := by decide +kernel
theorem d10_apart_6 : decode c10_apart 6 = .ok (.iadd, 1) := by decide +kernel
theorem d10_apart_7 : decode c10_apart 7 = .ok (.bipush 12, 2) := by decide +kernel
theorem d10_apart_9 : decode c10_apart 9 = .ok (.irem, 1) := by decide +kernel
theorem d10_apart_10 : decode c10_apart 10 = .ok (.ireturn, 1) := by decide +kernel
def t10_apart (l : Launch) (Po : ri_O) : List ri_S := [i_il 1 0,
  i_con 2 12,
  i_div 3 (fun x y => x - x / y * y),
  i_con 4 12,
  i_bin 5 (fun x y => x + y),
  i_con 6 12,
  i_div 7 (fun x y => x - x / y * y),
  i_ret Po 0 0]
set_option maxRecDepth 20000 in
set_option maxHeartbeats 4000000 in
theorem z10_apart (l : Launch) (Po : ri_O) (p : Program) (e : Env) (s : State) (m : MethodId) (args : Array Value) (below : List Frame) (meth : Method) (c : Code) (D : va_G) (ka : Nat → ClassId) (sa : Nat → Nat) (base : Nat) (X : ri_X p s m args c c10_apart 1 w10_apart "ChoraleSearchModel" D ka sa base) (hret : meth.sig.returnType = (some .int)) (hlocks : meth.locks = false) (hname : meth.name = "apart") : ri_clo (ri_W p l e r10_apart s m args below meth c D ka sa base 1 (MQ below (ri_Qc D ka sa base Po) args s 0 0 (fun q => base ≤ q)) p10_apart) (t10_apart l Po) := by
  refine ri_clo_of ?_
  unfold t10_apart
  exact ⟨s_iload_n X d10_apart_0 rfl rfl,
    s_bipush X d10_apart_1 rfl rfl,
    s_irem X d10_apart_3 rfl,
    s_bipush X d10_apart_4 rfl rfl,
    s_iadd X d10_apart_6 rfl,
    s_bipush X d10_apart_7 rfl rfl,
    s_irem X d10_apart_9 rfl,
    s_iret X hret hlocks d10_apart_10, trivial⟩
theorem d10_costOfStep_0 : decode c10_costOfStep 0 = .ok (.aload_n 0, 1) := by decide +kernel
theorem d10_costOfStep_1 : decode c10_costOfStep 1 = .ok (.getfield 45, 3) := by decide +kernel
theorem d10_costOfStep_4 : decode c10_costOfStep 4 = .ok (.iconst 4, 1) := by decide +kernel
theorem d10_costOfStep_5 : decode c10_costOfStep 5 = .ok (.iaload, 1) := by decide +kernel
theorem d10_costOfStep_6 : decode c10_costOfStep 6 = .ok (.aload_n 0, 1) := by decide +kernel
theorem d10_costOfStep_7 : decode c10_costOfStep 7 = .ok (.getfield 57, 3) := by decide +kernel
theorem d10_costOfStep_10 : decode c10_costOfStep 10 = .ok (.iload_n 1, 1) := by decide +kernel
theorem d10_costOfStep_11 : decode c10_costOfStep 11 = .ok (.iaload, 1) := by decide +kernel
theorem d10_costOfStep_12 : decode c10_costOfStep 12 = .ok (.aload_n 0, 1) := by decide +kernel
theorem d10_costOfStep_13 : decode c10_costOfStep 13 = .ok (.getfield 57, 3) := by decide +kernel
theorem d10_costOfStep_16 : decode c10_costOfStep 16 = .ok (.iload_n 2, 1) := by decide +kernel
theorem d10_costOfStep_17 : decode c10_costOfStep 17 = .ok (.iaload, 1) := by decide +kernel
theorem d10_costOfStep_18 : decode c10_costOfStep 18 = .ok (.invokestatic 182, 3) := by decide +kernel
theorem d10_costOfStep_21 : decode c10_costOfStep 21 = .ok (.imul, 1) := by decide +kernel
theorem d10_costOfStep_22 : decode c10_costOfStep 22 = .ok (.istore_n 3, 1) := by decide +kernel
theorem d10_costOfStep_23 : decode c10_costOfStep 23 = .ok (.iconst 0, 1) := by decide +kernel
theorem d10_costOfStep_24 : decode c10_costOfStep 24 = .ok (.istore 4, 2) := by decide +kernel
theorem d10_costOfStep_26 : decode c10_costOfStep 26 = .ok (.iconst 0, 1) := by decide +kernel
theorem d10_costOfStep_27 : decode c10_costOfStep 27 = .ok (.istore 5, 2) := by decide +kernel
theorem d10_costOfStep_29 : decode c10_costOfStep 29 = .ok (.iload 5, 2) := by decide +kernel
theorem d10_costOfStep_31 : decode c10_costOfStep 31 = .ok (.iconst 4, 1) := by decide +kernel
theorem d10_costOfStep_32 : decode c10_costOfStep 32 = .ok (.if_icmp .ge 110, 3) := by decide +kernel
theorem d10_costOfStep_35 : decode c10_costOfStep 35 = .ok (.aload_n 0, 1) := by decide +kernel
theorem d10_costOfStep_36 : decode c10_costOfStep 36 = .ok (.getfield 54, 3) := by decide +kernel
theorem d10_costOfStep_39 : decode c10_costOfStep 39 = .ok (.iconst 4, 1) := by decide +kernel
theorem d10_costOfStep_40 : decode c10_costOfStep 40 = .ok (.iload_n 2, 1) := by decide +kernel
theorem d10_costOfStep_41 : decode c10_costOfStep 41 = .ok (.imul, 1) := by decide +kernel
theorem d10_costOfStep_42 : decode c10_costOfStep 42 = .ok (.iload 5, 2) := by decide +kernel
theorem d10_costOfStep_44 : decode c10_costOfStep 44 = .ok (.iadd, 1) := by decide +kernel
theorem d10_costOfStep_45 : decode c10_costOfStep 45 = .ok (.iaload, 1) := by decide +kernel
theorem d10_costOfStep_46 : decode c10_costOfStep 46 = .ok (.aload_n 0, 1) := by decide +kernel
theorem d10_costOfStep_47 : decode c10_costOfStep 47 = .ok (.getfield 54, 3) := by decide +kernel
theorem d10_costOfStep_50 : decode c10_costOfStep 50 = .ok (.iconst 4, 1) := by decide +kernel
theorem d10_costOfStep_51 : decode c10_costOfStep 51 = .ok (.iload_n 1, 1) := by decide +kernel
theorem d10_costOfStep_52 : decode c10_costOfStep 52 = .ok (.imul, 1) := by decide +kernel
theorem d10_costOfStep_53 : decode c10_costOfStep 53 = .ok (.iload 5, 2) := by decide +kernel
theorem d10_costOfStep_55 : decode c10_costOfStep 55 = .ok (.iadd, 1) := by decide +kernel
theorem d10_costOfStep_56 : decode c10_costOfStep 56 = .ok (.iaload, 1) := by decide +kernel
theorem d10_costOfStep_57 : decode c10_costOfStep 57 = .ok (.isub, 1) := by decide +kernel
theorem d10_costOfStep_58 : decode c10_costOfStep 58 = .ok (.invokestatic 185, 3) := by decide +kernel
theorem d10_costOfStep_61 : decode c10_costOfStep 61 = .ok (.istore 6, 2) := by decide +kernel
theorem d10_costOfStep_63 : decode c10_costOfStep 63 = .ok (.iload 4, 2) := by decide +kernel
theorem d10_costOfStep_65 : decode c10_costOfStep 65 = .ok (.ifCond .ne 8, 3) := by decide +kernel
theorem d10_costOfStep_68 : decode c10_costOfStep 68 = .ok (.iload 6, 2) := by decide +kernel
theorem d10_costOfStep_70 : decode c10_costOfStep 70 = .ok (.ifCond .le 7, 3) := by decide +kernel
theorem d10_costOfStep_73 : decode c10_costOfStep 73 = .ok (.iconst 1, 1) := by decide +kernel
theorem d10_costOfStep_74 : decode c10_costOfStep 74 = .ok (.goto 4, 3) := by decide +kernel
theorem d10_costOfStep_77 : decode c10_costOfStep 77 = .ok (.iconst 0, 1) := by decide +kernel
theorem d10_costOfStep_78 : decode c10_costOfStep 78 = .ok (.istore 4, 2) := by decide +kernel
theorem d10_costOfStep_80 : decode c10_costOfStep 80 = .ok (.iload_n 3, 1) := by decide +kernel
theorem d10_costOfStep_81 : decode c10_costOfStep 81 = .ok (.iload 5, 2) := by decide +kernel
theorem d10_costOfStep_83 : decode c10_costOfStep 83 = .ok (.iconst 3, 1) := by decide +kernel
theorem d10_costOfStep_84 : decode c10_costOfStep 84 = .ok (.if_icmp .ge 23, 3) := by decide +kernel
theorem d10_costOfStep_87 : decode c10_costOfStep 87 = .ok (.iload 6, 2) := by decide +kernel
theorem d10_costOfStep_89 : decode c10_costOfStep 89 = .ok (.iconst 2, 1) := by decide +kernel
theorem d10_costOfStep_90 : decode c10_costOfStep 90 = .ok (.if_icmp .le 17, 3) := by decide +kernel
theorem d10_costOfStep_93 : decode c10_costOfStep 93 = .ok (.aload_n 0, 1) := by decide +kernel
theorem d10_costOfStep_94 : decode c10_costOfStep 94 = .ok (.getfield 45, 3) := by decide +kernel
theorem d10_costOfStep_97 : decode c10_costOfStep 97 = .ok (.iconst 0, 1) := by decide +kernel
theorem d10_costOfStep_98 : decode c10_costOfStep 98 = .ok (.iaload, 1) := by decide +kernel
theorem d10_costOfStep_99 : decode c10_costOfStep 99 = .ok (.iload 6, 2) := by decide +kernel
theorem d10_costOfStep_101 : decode c10_costOfStep 101 = .ok (.iconst 2, 1) := by decide +kernel
theorem d10_costOfStep_102 : decode c10_costOfStep 102 = .ok (.isub, 1) := by decide +kernel
theorem d10_costOfStep_103 : decode c10_costOfStep 103 = .ok (.imul, 1) := by decide +kernel
theorem d10_costOfStep_104 : decode c10_costOfStep 104 = .ok (.goto 4, 3) := by decide +kernel
theorem d10_costOfStep_107 : decode c10_costOfStep 107 = .ok (.iconst 0, 1) := by decide +kernel
theorem d10_costOfStep_108 : decode c10_costOfStep 108 = .ok (.iadd, 1) := by decide +kernel
theorem d10_costOfStep_109 : decode c10_costOfStep 109 = .ok (.istore_n 3, 1) := by decide +kernel
theorem d10_costOfStep_110 : decode c10_costOfStep 110 = .ok (.iload_n 3, 1) := by decide +kernel
theorem d10_costOfStep_111 : decode c10_costOfStep 111 = .ok (.iload 5, 2) := by decide +kernel
theorem d10_costOfStep_113 : decode c10_costOfStep 113 = .ok (.iconst 3, 1) := by decide +kernel
theorem d10_costOfStep_114 : decode c10_costOfStep 114 = .ok (.if_icmp .ne 19, 3) := by decide +kernel
theorem d10_costOfStep_117 : decode c10_costOfStep 117 = .ok (.iload 6, 2) := by decide +kernel
theorem d10_costOfStep_119 : decode c10_costOfStep 119 = .ok (.bipush 7, 2) := by decide +kernel
theorem d10_costOfStep_121 : decode c10_costOfStep 121 = .ok (.if_icmp .le 12, 3) := by decide +kernel
theorem d10_costOfStep_124 : decode c10_costOfStep 124 = .ok (.aload_n 0, 1) := by decide +kernel
theorem d10_costOfStep_125 : decode c10_costOfStep 125 = .ok (.getfield 45, 3) := by decide +kernel
theorem d10_costOfStep_128 : decode c10_costOfStep 128 = .ok (.iconst 1, 1) := by decide +kernel
theorem d10_costOfStep_129 : decode c10_costOfStep 129 = .ok (.iaload, 1) := by decide +kernel
theorem d10_costOfStep_130 : decode c10_costOfStep 130 = .ok (.goto 4, 3) := by decide +kernel
theorem d10_costOfStep_133 : decode c10_costOfStep 133 = .ok (.iconst 0, 1) := by decide +kernel
theorem d10_costOfStep_134 : decode c10_costOfStep 134 = .ok (.iadd, 1) := by decide +kernel
theorem d10_costOfStep_135 : decode c10_costOfStep 135 = .ok (.istore_n 3, 1) := by decide +kernel
theorem d10_costOfStep_136 : decode c10_costOfStep 136 = .ok (.iinc 5 1, 3) := by decide +kernel
theorem d10_costOfStep_139 : decode c10_costOfStep 139 = .ok (.goto (-110), 3) := by decide +kernel
theorem d10_costOfStep_142 : decode c10_costOfStep 142 = .ok (.aload_n 0, 1) := by decide +kernel
theorem d10_costOfStep_143 : decode c10_costOfStep 143 = .ok (.getfield 54, 3) := by decide +kernel
theorem d10_costOfStep_146 : decode c10_costOfStep 146 = .ok (.iconst 4, 1) := by decide +kernel
theorem d10_costOfStep_147 : decode c10_costOfStep 147 = .ok (.iload_n 2, 1) := by decide +kernel
theorem d10_costOfStep_148 : decode c10_costOfStep 148 = .ok (.imul, 1) := by decide +kernel
theorem d10_costOfStep_149 : decode c10_costOfStep 149 = .ok (.iaload, 1) := by decide +kernel
theorem d10_costOfStep_150 : decode c10_costOfStep 150 = .ok (.aload_n 0, 1) := by decide +kernel
theorem d10_costOfStep_151 : decode c10_costOfStep 151 = .ok (.getfield 54, 3) := by decide +kernel
theorem d10_costOfStep_154 : decode c10_costOfStep 154 = .ok (.iconst 4, 1) := by decide +kernel
theorem d10_costOfStep_155 : decode c10_costOfStep 155 = .ok (.iload_n 1, 1) := by decide +kernel
theorem d10_costOfStep_156 : decode c10_costOfStep 156 = .ok (.imul, 1) := by decide +kernel
theorem d10_costOfStep_157 : decode c10_costOfStep 157 = .ok (.iaload, 1) := by decide +kernel
theorem d10_costOfStep_158 : decode c10_costOfStep 158 = .ok (.isub, 1) := by decide +kernel
theorem d10_costOfStep_159 : decode c10_costOfStep 159 = .ok (.istore 5, 2) := by decide +kernel
theorem d10_costOfStep_161 : decode c10_costOfStep 161 = .ok (.aload_n 0, 1) := by decide +kernel
theorem d10_costOfStep_162 : decode c10_costOfStep 162 = .ok (.getfield 54, 3) := by decide +kernel
theorem d10_costOfStep_165 : decode c10_costOfStep 165 = .ok (.iconst 4, 1) := by decide +kernel
theorem d10_costOfStep_166 : decode c10_costOfStep 166 = .ok (.iload_n 2, 1) := by decide +kernel
theorem d10_costOfStep_167 : decode c10_costOfStep 167 = .ok (.imul, 1) := by decide +kernel
theorem d10_costOfStep_168 : decode c10_costOfStep 168 = .ok (.iconst 3, 1) := by decide +kernel
theorem d10_costOfStep_169 : decode c10_costOfStep 169 = .ok (.iadd, 1) := by decide +kernel
theorem d10_costOfStep_170 : decode c10_costOfStep 170 = .ok (.iaload, 1) := by decide +kernel
theorem d10_costOfStep_171 : decode c10_costOfStep 171 = .ok (.aload_n 0, 1) := by decide +kernel
theorem d10_costOfStep_172 : decode c10_costOfStep 172 = .ok (.getfield 54, 3) := by decide +kernel
theorem d10_costOfStep_175 : decode c10_costOfStep 175 = .ok (.iconst 4, 1) := by decide +kernel
theorem d10_costOfStep_176 : decode c10_costOfStep 176 = .ok (.iload_n 1, 1) := by decide +kernel
theorem d10_costOfStep_177 : decode c10_costOfStep 177 = .ok (.imul, 1) := by decide +kernel
theorem d10_costOfStep_178 : decode c10_costOfStep 178 = .ok (.iconst 3, 1) := by decide +kernel
theorem d10_costOfStep_179 : decode c10_costOfStep 179 = .ok (.iadd, 1) := by decide +kernel
theorem d10_costOfStep_180 : decode c10_costOfStep 180 = .ok (.iaload, 1) := by decide +kernel
theorem d10_costOfStep_181 : decode c10_costOfStep 181 = .ok (.isub, 1) := by decide +kernel
theorem d10_costOfStep_182 : decode c10_costOfStep 182 = .ok (.istore 6, 2) := by decide +kernel
theorem d10_costOfStep_184 : decode c10_costOfStep 184 = .ok (.iload 5, 2) := by decide +kernel
theorem d10_costOfStep_186 : decode c10_costOfStep 186 = .ok (.ifCond .le 8, 3) := by decide +kernel
theorem d10_costOfStep_189 : decode c10_costOfStep 189 = .ok (.iload 6, 2) := by decide +kernel
theorem d10_costOfStep_191 : decode c10_costOfStep 191 = .ok (.ifCond .gt 13, 3) := by decide +kernel
theorem d10_costOfStep_194 : decode c10_costOfStep 194 = .ok (.iload 5, 2) := by decide +kernel
theorem d10_costOfStep_196 : decode c10_costOfStep 196 = .ok (.ifCond .ge 12, 3) := by decide +kernel
theorem d10_costOfStep_199 : decode c10_costOfStep 199 = .ok (.iload 6, 2) := by decide +kernel
theorem d10_costOfStep_201 : decode c10_costOfStep 201 = .ok (.ifCond .ge 7, 3) := by decide +kernel
theorem d10_costOfStep_204 : decode c10_costOfStep 204 = .ok (.iconst 1, 1) := by decide +kernel
theorem d10_costOfStep_205 : decode c10_costOfStep 205 = .ok (.goto 4, 3) := by decide +kernel
theorem d10_costOfStep_208 : decode c10_costOfStep 208 = .ok (.iconst 0, 1) := by decide +kernel
theorem d10_costOfStep_209 : decode c10_costOfStep 209 = .ok (.istore 7, 2) := by decide +kernel
theorem d10_costOfStep_211 : decode c10_costOfStep 211 = .ok (.aload_n 0, 1) := by decide +kernel
theorem d10_costOfStep_212 : decode c10_costOfStep 212 = .ok (.getfield 54, 3) := by decide +kernel
theorem d10_costOfStep_215 : decode c10_costOfStep 215 = .ok (.iconst 4, 1) := by decide +kernel
theorem d10_costOfStep_216 : decode c10_costOfStep 216 = .ok (.iload_n 2, 1) := by decide +kernel
theorem d10_costOfStep_217 : decode c10_costOfStep 217 = .ok (.imul, 1) := by decide +kernel
theorem d10_costOfStep_218 : decode c10_costOfStep 218 = .ok (.iaload, 1) := by decide +kernel
theorem d10_costOfStep_219 : decode c10_costOfStep 219 = .ok (.aload_n 0, 1) := by decide +kernel
theorem d10_costOfStep_220 : decode c10_costOfStep 220 = .ok (.getfield 54, 3) := by decide +kernel
theorem d10_costOfStep_223 : decode c10_costOfStep 223 = .ok (.iconst 4, 1) := by decide +kernel
theorem d10_costOfStep_224 : decode c10_costOfStep 224 = .ok (.iload_n 2, 1) := by decide +kernel
theorem d10_costOfStep_225 : decode c10_costOfStep 225 = .ok (.imul, 1) := by decide +kernel
theorem d10_costOfStep_226 : decode c10_costOfStep 226 = .ok (.iconst 3, 1) := by decide +kernel
theorem d10_costOfStep_227 : decode c10_costOfStep 227 = .ok (.iadd, 1) := by decide +kernel
theorem d10_costOfStep_228 : decode c10_costOfStep 228 = .ok (.iaload, 1) := by decide +kernel
theorem d10_costOfStep_229 : decode c10_costOfStep 229 = .ok (.isub, 1) := by decide +kernel
theorem d10_costOfStep_230 : decode c10_costOfStep 230 = .ok (.invokestatic 188, 3) := by decide +kernel
theorem d10_costOfStep_233 : decode c10_costOfStep 233 = .ok (.istore 8, 2) := by decide +kernel
theorem d10_costOfStep_235 : decode c10_costOfStep 235 = .ok (.iload_n 3, 1) := by decide +kernel
theorem d10_costOfStep_236 : decode c10_costOfStep 236 = .ok (.iload 7, 2) := by decide +kernel
theorem d10_costOfStep_238 : decode c10_costOfStep 238 = .ok (.ifCond .eq 33, 3) := by decide +kernel
theorem d10_costOfStep_241 : decode c10_costOfStep 241 = .ok (.iload 5, 2) := by decide +kernel
theorem d10_costOfStep_243 : decode c10_costOfStep 243 = .ok (.invokestatic 185, 3) := by decide +kernel
theorem d10_costOfStep_246 : decode c10_costOfStep 246 = .ok (.iconst 2, 1) := by decide +kernel
theorem d10_costOfStep_247 : decode c10_costOfStep 247 = .ok (.if_icmp .le 24, 3) := by decide +kernel
theorem d10_costOfStep_250 : decode c10_costOfStep 250 = .ok (.iload 8, 2) := by decide +kernel
theorem d10_costOfStep_252 : decode c10_costOfStep 252 = .ok (.ifCond .eq 10, 3) := by decide +kernel
theorem d10_costOfStep_255 : decode c10_costOfStep 255 = .ok (.iload 8, 2) := by decide +kernel
theorem d10_costOfStep_257 : decode c10_costOfStep 257 = .ok (.bipush 7, 2) := by decide +kernel
theorem d10_costOfStep_259 : decode c10_costOfStep 259 = .ok (.if_icmp .ne 12, 3) := by decide +kernel
theorem d10_costOfStep_262 : decode c10_costOfStep 262 = .ok (.aload_n 0, 1) := by decide +kernel
theorem d10_costOfStep_263 : decode c10_costOfStep 263 = .ok (.getfield 45, 3) := by decide +kernel
theorem d10_costOfStep_266 : decode c10_costOfStep 266 = .ok (.iconst 5, 1) := by decide +kernel
theorem d10_costOfStep_267 : decode c10_costOfStep 267 = .ok (.iaload, 1) := by decide +kernel
theorem d10_costOfStep_268 : decode c10_costOfStep 268 = .ok (.goto 4, 3) := by decide +kernel
theorem d10_costOfStep_271 : decode c10_costOfStep 271 = .ok (.iconst 0, 1) := by decide +kernel
theorem d10_costOfStep_272 : decode c10_costOfStep 272 = .ok (.iadd, 1) := by decide +kernel
theorem d10_costOfStep_273 : decode c10_costOfStep 273 = .ok (.istore_n 3, 1) := by decide +kernel
theorem d10_costOfStep_274 : decode c10_costOfStep 274 = .ok (.iload_n 3, 1) := by decide +kernel
theorem d10_costOfStep_275 : decode c10_costOfStep 275 = .ok (.iload 4, 2) := by decide +kernel
theorem d10_costOfStep_277 : decode c10_costOfStep 277 = .ok (.ifCond .eq 7, 3) := by decide +kernel
theorem d10_costOfStep_280 : decode c10_costOfStep 280 = .ok (.iconst 0, 1) := by decide +kernel
theorem d10_costOfStep_281 : decode c10_costOfStep 281 = .ok (.goto 10, 3) := by decide +kernel
theorem d10_costOfStep_284 : decode c10_costOfStep 284 = .ok (.aload_n 0, 1) := by decide +kernel
theorem d10_costOfStep_285 : decode c10_costOfStep 285 = .ok (.getfield 45, 3) := by decide +kernel
theorem d10_costOfStep_288 : decode c10_costOfStep 288 = .ok (.bipush 7, 2) := by decide +kernel
theorem d10_costOfStep_290 : decode c10_costOfStep 290 = .ok (.iaload, 1) := by decide +kernel
theorem d10_costOfStep_291 : decode c10_costOfStep 291 = .ok (.iadd, 1) := by decide +kernel
theorem d10_costOfStep_292 : decode c10_costOfStep 292 = .ok (.ireturn, 1) := by decide +kernel
def t10_costOfStep (l : Launch) (Po : ri_O) : List ri_S := [i_al 1 0,
  i_get 2 10 13,
  i_con 3 4,
  i_ald 4 0,
  i_al 5 0,
  i_get 6 10 17,
  i_il 7 1,
  i_ald 8 0,
  i_al 9 0,
  i_get 10 10 17,
  i_il 11 2,
  i_ald 12 0,
  i_call 13 2 (ri_Ev l y10_units w10_units r10_units 0 0) 0 0 0 0,
  i_bin 14 (fun x y => x * y),
  i_is 15 3,
  i_con 16 0,
  i_is 17 4,
  i_con 18 0,
  i_is 19 5,
  i_il 20 5,
  i_con 21 4,
  i_icmp 22 85 (fun x y => y ≤ x),
  i_al 23 0,
  i_get 24 10 16,
  i_con 25 4,
  i_il 26 2,
  i_bin 27 (fun x y => x * y),
  i_il 28 5,
  i_bin 29 (fun x y => x + y),
  i_ald 30 0,
  i_al 31 0,
  i_get 32 10 16,
  i_con 33 4,
  i_il 34 1,
  i_bin 35 (fun x y => x * y),
  i_il 36 5,
  i_bin 37 (fun x y => x + y),
  i_ald 38 0,
  i_bin 39 (fun x y => x - y),
  i_call 40 1 (ri_Ev l y10_size w10_size r10_size 0 0) 0 0 0 0,
  i_is 41 6,
  i_il 42 4,
  i_if 43 45 (fun x => ¬ x = 0),
  i_il 44 6,
  i_if 45 47 (fun x => x ≤ 0),
  i_con 46 1,
  i_goto 48,
  i_con 48 0,
  i_is 49 4,
  i_il 50 3,
  i_il 51 5,
  i_con 52 3,
  i_icmp 53 65 (fun x y => y ≤ x),
  i_il 54 6,
  i_con 55 2,
  i_icmp 56 65 (fun x y => x ≤ y),
  i_al 57 0,
  i_get 58 10 13,
  i_con 59 0,
  i_ald 60 0,
  i_il 61 6,
  i_con 62 2,
  i_bin 63 (fun x y => x - y),
  i_bin 64 (fun x y => x * y),
  i_goto 66,
  i_con 66 0,
  i_bin 67 (fun x y => x + y),
  i_is 68 3,
  i_il 69 3,
  i_il 70 5,
  i_con 71 3,
  i_icmp 72 80 (fun x y => ¬ x = y),
  i_il 73 6,
  i_con 74 7,
  i_icmp 75 80 (fun x y => x ≤ y),
  i_al 76 0,
  i_get 77 10 13,
  i_con 78 1,
  i_ald 79 0,
  i_goto 81,
  i_con 81 0,
  i_bin 82 (fun x y => x + y),
  i_is 83 3,
  i_inc 84 5 1,
  i_goto 19,
  i_al 86 0,
  i_get 87 10 16,
  i_con 88 4,
  i_il 89 2,
  i_bin 90 (fun x y => x * y),
  i_ald 91 0,
  i_al 92 0,
  i_get 93 10 16,
  i_con 94 4,
  i_il 95 1,
  i_bin 96 (fun x y => x * y),
  i_ald 97 0,
  i_bin 98 (fun x y => x - y),
  i_is 99 5,
  i_al 100 0,
  i_get 101 10 16,
  i_con 102 4,
  i_il 103 2,
  i_bin 104 (fun x y => x * y),
  i_con 105 3,
  i_bin 106 (fun x y => x + y),
  i_ald 107 0,
  i_al 108 0,
  i_get 109 10 16,
  i_con 110 4,
  i_il 111 1,
  i_bin 112 (fun x y => x * y),
  i_con 113 3,
  i_bin 114 (fun x y => x + y),
  i_ald 115 0,
  i_bin 116 (fun x y => x - y),
  i_is 117 6,
  i_il 118 5,
  i_if 119 121 (fun x => x ≤ 0),
  i_il 120 6,
  i_if 121 125 (fun x => 0 < x),
  i_il 122 5,
  i_if 123 127 (fun x => 0 ≤ x),
  i_il 124 6,
  i_if 125 127 (fun x => 0 ≤ x),
  i_con 126 1,
  i_goto 128,
  i_con 128 0,
  i_is 129 7,
  i_al 130 0,
  i_get 131 10 16,
  i_con 132 4,
  i_il 133 2,
  i_bin 134 (fun x y => x * y),
  i_ald 135 0,
  i_al 136 0,
  i_get 137 10 16,
  i_con 138 4,
  i_il 139 2,
  i_bin 140 (fun x y => x * y),
  i_con 141 3,
  i_bin 142 (fun x y => x + y),
  i_ald 143 0,
  i_bin 144 (fun x y => x - y),
  i_call 145 1 (ri_Ev l y10_apart w10_apart r10_apart 0 0) 0 0 0 0,
  i_is 146 8,
  i_il 147 3,
  i_il 148 7,
  i_if 149 163 (fun x => x = 0),
  i_il 150 5,
  i_call 151 1 (ri_Ev l y10_size w10_size r10_size 0 0) 0 0 0 0,
  i_con 152 2,
  i_icmp 153 163 (fun x y => x ≤ y),
  i_il 154 8,
  i_if 155 158 (fun x => x = 0),
  i_il 156 8,
  i_con 157 7,
  i_icmp 158 163 (fun x y => ¬ x = y),
  i_al 159 0,
  i_get 160 10 13,
  i_con 161 5,
  i_ald 162 0,
  i_goto 164,
  i_con 164 0,
  i_bin 165 (fun x y => x + y),
  i_is 166 3,
  i_il 167 3,
  i_il 168 4,
  i_if 169 171 (fun x => x = 0),
  i_con 170 0,
  i_goto 175,
  i_al 172 0,
  i_get 173 10 13,
  i_con 174 7,
  i_ald 175 0,
  i_bin 176 (fun x y => x + y),
  i_ret Po 0 0]
set_option maxRecDepth 20000 in
set_option maxHeartbeats 4000000 in
theorem z10_costOfStep (l : Launch) (Po : ri_O) (p : Program) (e : Env) (s : State) (m : MethodId) (args : Array Value) (below : List Frame) (meth : Method) (c : Code) (D : va_G) (ka : Nat → ClassId) (sa : Nat → Nat) (base : Nat) (X : ri_X p s m args c c10_costOfStep 9 w10_costOfStep "ChoraleSearchModel" D ka sa base) (hret : meth.sig.returnType = (some .int)) (hlocks : meth.locks = false) (hname : meth.name = "costOfStep") : ri_clo (ri_W p l e r10_costOfStep s m args below meth c D ka sa base 9 (MQ below (ri_Qc D ka sa base Po) args s 0 0 (fun q => base ≤ q)) p10_costOfStep) (t10_costOfStep l Po) := by
  refine ri_clo_of ?_
  unfold t10_costOfStep
  exact ⟨s_aload_n X d10_costOfStep_0 rfl rfl,
    s_get X (ci := 10) (f := 13) rfl (fun w h => List.mem_cons_of_mem _ (uC_10 w h)) (by decide) (List.mem_cons_of_mem _ mgw_827) d10_costOfStep_1 rfl,
    s_iconst X d10_costOfStep_4 rfl rfl,
    s_iald X rfl d10_costOfStep_5 rfl,
    s_aload_n X d10_costOfStep_6 rfl rfl,
    s_get X (ci := 10) (f := 17) rfl (fun w h => List.mem_cons_of_mem _ (uC_10 w h)) (by decide) (List.mem_cons_of_mem _ mgw_831) d10_costOfStep_7 rfl,
    s_iload_n X d10_costOfStep_10 rfl rfl,
    s_iald X rfl d10_costOfStep_11 rfl,
    s_aload_n X d10_costOfStep_12 rfl rfl,
    s_get X (ci := 10) (f := 17) rfl (fun w h => List.mem_cons_of_mem _ (uC_10 w h)) (by decide) (List.mem_cons_of_mem _ mgw_831) d10_costOfStep_13 rfl,
    s_iload_n X d10_costOfStep_16 rfl rfl,
    s_iald X rfl d10_costOfStep_17 rfl,
    s_callS ri_NW_ok X ⟨ri_cB X 2 mgw_1052 (List.mem_cons_of_mem _ mgw_12) (List.mem_cons_of_mem _ mgw_1050) (by decide +kernel) rfl rfl ⟨by decide, by decide⟩, X.2.2.2.2.1 _ (List.mem_cons_of_mem _ mgw_1051)⟩ d10_costOfStep_18 rfl,
    s_imul X d10_costOfStep_21 rfl,
    s_istore_n X d10_costOfStep_22 rfl (by decide) rfl,
    s_iconst X d10_costOfStep_23 rfl rfl,
    s_istore X d10_costOfStep_24 (by decide) rfl,
    s_iconst X d10_costOfStep_26 rfl rfl,
    s_istore X d10_costOfStep_27 (by decide) rfl,
    s_iload X d10_costOfStep_29 rfl,
    s_iconst X d10_costOfStep_31 rfl rfl,
    s_icmp_ge X d10_costOfStep_32 rfl rfl,
    s_aload_n X d10_costOfStep_35 rfl rfl,
    s_get X (ci := 10) (f := 16) rfl (fun w h => List.mem_cons_of_mem _ (uC_10 w h)) (by decide) (List.mem_cons_of_mem _ mgw_830) d10_costOfStep_36 rfl,
    s_iconst X d10_costOfStep_39 rfl rfl,
    s_iload_n X d10_costOfStep_40 rfl rfl,
    s_imul X d10_costOfStep_41 rfl,
    s_iload X d10_costOfStep_42 rfl,
    s_iadd X d10_costOfStep_44 rfl,
    s_iald X rfl d10_costOfStep_45 rfl,
    s_aload_n X d10_costOfStep_46 rfl rfl,
    s_get X (ci := 10) (f := 16) rfl (fun w h => List.mem_cons_of_mem _ (uC_10 w h)) (by decide) (List.mem_cons_of_mem _ mgw_830) d10_costOfStep_47 rfl,
    s_iconst X d10_costOfStep_50 rfl rfl,
    s_iload_n X d10_costOfStep_51 rfl rfl,
    s_imul X d10_costOfStep_52 rfl,
    s_iload X d10_costOfStep_53 rfl,
    s_iadd X d10_costOfStep_55 rfl,
    s_iald X rfl d10_costOfStep_56 rfl,
    s_isub X d10_costOfStep_57 rfl,
    s_callS ri_NW_ok X ⟨ri_cB X 1 mgw_1058 (List.mem_cons_of_mem _ mgw_12) (List.mem_cons_of_mem _ mgw_1056) (by decide +kernel) rfl rfl ⟨by decide, by decide⟩, X.2.2.2.2.1 _ (List.mem_cons_of_mem _ mgw_1057)⟩ d10_costOfStep_58 rfl,
    s_istore X d10_costOfStep_61 (by decide) rfl,
    s_iload X d10_costOfStep_63 rfl,
    s_if_ne X d10_costOfStep_65 rfl rfl,
    s_iload X d10_costOfStep_68 rfl,
    s_if_le X d10_costOfStep_70 rfl rfl,
    s_iconst X d10_costOfStep_73 rfl rfl,
    s_goto X d10_costOfStep_74 rfl,
    s_iconst X d10_costOfStep_77 rfl rfl,
    s_istore X d10_costOfStep_78 (by decide) rfl,
    s_iload_n X d10_costOfStep_80 rfl rfl,
    s_iload X d10_costOfStep_81 rfl,
    s_iconst X d10_costOfStep_83 rfl rfl,
    s_icmp_ge X d10_costOfStep_84 rfl rfl,
    s_iload X d10_costOfStep_87 rfl,
    s_iconst X d10_costOfStep_89 rfl rfl,
    s_icmp_le X d10_costOfStep_90 rfl rfl,
    s_aload_n X d10_costOfStep_93 rfl rfl,
    s_get X (ci := 10) (f := 13) rfl (fun w h => List.mem_cons_of_mem _ (uC_10 w h)) (by decide) (List.mem_cons_of_mem _ mgw_827) d10_costOfStep_94 rfl,
    s_iconst X d10_costOfStep_97 rfl rfl,
    s_iald X rfl d10_costOfStep_98 rfl,
    s_iload X d10_costOfStep_99 rfl,
    s_iconst X d10_costOfStep_101 rfl rfl,
    s_isub X d10_costOfStep_102 rfl,
    s_imul X d10_costOfStep_103 rfl,
    s_goto X d10_costOfStep_104 rfl,
    s_iconst X d10_costOfStep_107 rfl rfl,
    s_iadd X d10_costOfStep_108 rfl,
    s_istore_n X d10_costOfStep_109 rfl (by decide) rfl,
    s_iload_n X d10_costOfStep_110 rfl rfl,
    s_iload X d10_costOfStep_111 rfl,
    s_iconst X d10_costOfStep_113 rfl rfl,
    s_icmp_ne X d10_costOfStep_114 rfl rfl,
    s_iload X d10_costOfStep_117 rfl,
    s_bipush X d10_costOfStep_119 rfl rfl,
    s_icmp_le X d10_costOfStep_121 rfl rfl,
    s_aload_n X d10_costOfStep_124 rfl rfl,
    s_get X (ci := 10) (f := 13) rfl (fun w h => List.mem_cons_of_mem _ (uC_10 w h)) (by decide) (List.mem_cons_of_mem _ mgw_827) d10_costOfStep_125 rfl,
    s_iconst X d10_costOfStep_128 rfl rfl,
    s_iald X rfl d10_costOfStep_129 rfl,
    s_goto X d10_costOfStep_130 rfl,
    s_iconst X d10_costOfStep_133 rfl rfl,
    s_iadd X d10_costOfStep_134 rfl,
    s_istore_n X d10_costOfStep_135 rfl (by decide) rfl,
    s_iinc X d10_costOfStep_136 rfl (by decide) rfl,
    s_goto X d10_costOfStep_139 rfl,
    s_aload_n X d10_costOfStep_142 rfl rfl,
    s_get X (ci := 10) (f := 16) rfl (fun w h => List.mem_cons_of_mem _ (uC_10 w h)) (by decide) (List.mem_cons_of_mem _ mgw_830) d10_costOfStep_143 rfl,
    s_iconst X d10_costOfStep_146 rfl rfl,
    s_iload_n X d10_costOfStep_147 rfl rfl,
    s_imul X d10_costOfStep_148 rfl,
    s_iald X rfl d10_costOfStep_149 rfl,
    s_aload_n X d10_costOfStep_150 rfl rfl,
    s_get X (ci := 10) (f := 16) rfl (fun w h => List.mem_cons_of_mem _ (uC_10 w h)) (by decide) (List.mem_cons_of_mem _ mgw_830) d10_costOfStep_151 rfl,
    s_iconst X d10_costOfStep_154 rfl rfl,
    s_iload_n X d10_costOfStep_155 rfl rfl,
    s_imul X d10_costOfStep_156 rfl,
    s_iald X rfl d10_costOfStep_157 rfl,
    s_isub X d10_costOfStep_158 rfl,
    s_istore X d10_costOfStep_159 (by decide) rfl,
    s_aload_n X d10_costOfStep_161 rfl rfl,
    s_get X (ci := 10) (f := 16) rfl (fun w h => List.mem_cons_of_mem _ (uC_10 w h)) (by decide) (List.mem_cons_of_mem _ mgw_830) d10_costOfStep_162 rfl,
    s_iconst X d10_costOfStep_165 rfl rfl,
    s_iload_n X d10_costOfStep_166 rfl rfl,
    s_imul X d10_costOfStep_167 rfl,
    s_iconst X d10_costOfStep_168 rfl rfl,
    s_iadd X d10_costOfStep_169 rfl,
    s_iald X rfl d10_costOfStep_170 rfl,
    s_aload_n X d10_costOfStep_171 rfl rfl,
    s_get X (ci := 10) (f := 16) rfl (fun w h => List.mem_cons_of_mem _ (uC_10 w h)) (by decide) (List.mem_cons_of_mem _ mgw_830) d10_costOfStep_172 rfl,
    s_iconst X d10_costOfStep_175 rfl rfl,
    s_iload_n X d10_costOfStep_176 rfl rfl,
    s_imul X d10_costOfStep_177 rfl,
    s_iconst X d10_costOfStep_178 rfl rfl,
    s_iadd X d10_costOfStep_179 rfl,
    s_iald X rfl d10_costOfStep_180 rfl,
    s_isub X d10_costOfStep_181 rfl,
    s_istore X d10_costOfStep_182 (by decide) rfl,
    s_iload X d10_costOfStep_184 rfl,
    s_if_le X d10_costOfStep_186 rfl rfl,
    s_iload X d10_costOfStep_189 rfl,
    s_if_gt X d10_costOfStep_191 rfl rfl,
    s_iload X d10_costOfStep_194 rfl,
    s_if_ge X d10_costOfStep_196 rfl rfl,
    s_iload X d10_costOfStep_199 rfl,
    s_if_ge X d10_costOfStep_201 rfl rfl,
    s_iconst X d10_costOfStep_204 rfl rfl,
    s_goto X d10_costOfStep_205 rfl,
    s_iconst X d10_costOfStep_208 rfl rfl,
    s_istore X d10_costOfStep_209 (by decide) rfl,
    s_aload_n X d10_costOfStep_211 rfl rfl,
    s_get X (ci := 10) (f := 16) rfl (fun w h => List.mem_cons_of_mem _ (uC_10 w h)) (by decide) (List.mem_cons_of_mem _ mgw_830) d10_costOfStep_212 rfl,
    s_iconst X d10_costOfStep_215 rfl rfl,
    s_iload_n X d10_costOfStep_216 rfl rfl,
    s_imul X d10_costOfStep_217 rfl,
    s_iald X rfl d10_costOfStep_218 rfl,
    s_aload_n X d10_costOfStep_219 rfl rfl,
    s_get X (ci := 10) (f := 16) rfl (fun w h => List.mem_cons_of_mem _ (uC_10 w h)) (by decide) (List.mem_cons_of_mem _ mgw_830) d10_costOfStep_220 rfl,
    s_iconst X d10_costOfStep_223 rfl rfl,
    s_iload_n X d10_costOfStep_224 rfl rfl,
    s_imul X d10_costOfStep_225 rfl,
    s_iconst X d10_costOfStep_226 rfl rfl,
    s_iadd X d10_costOfStep_227 rfl,
    s_iald X rfl d10_costOfStep_228 rfl,
    s_isub X d10_costOfStep_229 rfl,
    s_callS ri_NW_ok X ⟨ri_cB X 1 mgw_1061 (List.mem_cons_of_mem _ mgw_12) (List.mem_cons_of_mem _ mgw_1059) (by decide +kernel) rfl rfl ⟨by decide, by decide⟩, X.2.2.2.2.1 _ (List.mem_cons_of_mem _ mgw_1060)⟩ d10_costOfStep_230 rfl,
    s_istore X d10_costOfStep_233 (by decide) rfl,
    s_iload_n X d10_costOfStep_235 rfl rfl,
    s_iload X d10_costOfStep_236 rfl,
    s_if_eq X d10_costOfStep_238 rfl rfl,
    s_iload X d10_costOfStep_241 rfl,
    s_callS ri_NW_ok X ⟨ri_cB X 1 mgw_1058 (List.mem_cons_of_mem _ mgw_12) (List.mem_cons_of_mem _ mgw_1056) (by decide +kernel) rfl rfl ⟨by decide, by decide⟩, X.2.2.2.2.1 _ (List.mem_cons_of_mem _ mgw_1057)⟩ d10_costOfStep_243 rfl,
    s_iconst X d10_costOfStep_246 rfl rfl,
    s_icmp_le X d10_costOfStep_247 rfl rfl,
    s_iload X d10_costOfStep_250 rfl,
    s_if_eq X d10_costOfStep_252 rfl rfl,
    s_iload X d10_costOfStep_255 rfl,
    s_bipush X d10_costOfStep_257 rfl rfl,
    s_icmp_ne X d10_costOfStep_259 rfl rfl,
    s_aload_n X d10_costOfStep_262 rfl rfl,
    s_get X (ci := 10) (f := 13) rfl (fun w h => List.mem_cons_of_mem _ (uC_10 w h)) (by decide) (List.mem_cons_of_mem _ mgw_827) d10_costOfStep_263 rfl,
    s_iconst X d10_costOfStep_266 rfl rfl,
    s_iald X rfl d10_costOfStep_267 rfl,
    s_goto X d10_costOfStep_268 rfl,
    s_iconst X d10_costOfStep_271 rfl rfl,
    s_iadd X d10_costOfStep_272 rfl,
    s_istore_n X d10_costOfStep_273 rfl (by decide) rfl,
    s_iload_n X d10_costOfStep_274 rfl rfl,
    s_iload X d10_costOfStep_275 rfl,
    s_if_eq X d10_costOfStep_277 rfl rfl,
    s_iconst X d10_costOfStep_280 rfl rfl,
    s_goto X d10_costOfStep_281 rfl,
    s_aload_n X d10_costOfStep_284 rfl rfl,
    s_get X (ci := 10) (f := 13) rfl (fun w h => List.mem_cons_of_mem _ (uC_10 w h)) (by decide) (List.mem_cons_of_mem _ mgw_827) d10_costOfStep_285 rfl,
    s_bipush X d10_costOfStep_288 rfl rfl,
    s_iald X rfl d10_costOfStep_290 rfl,
    s_iadd X d10_costOfStep_291 rfl,
    s_iret X hret hlocks d10_costOfStep_292, trivial⟩
theorem d10_narrow_0 : decode c10_narrow 0 = .ok (.iconst 0, 1) := by decide +kernel
theorem d10_narrow_1 : decode c10_narrow 1 = .ok (.istore_n 3, 1) := by decide +kernel
theorem d10_narrow_2 : decode c10_narrow 2 = .ok (.sipush 400, 3) := by decide +kernel
theorem d10_narrow_5 : decode c10_narrow 5 = .ok (.iload_n 1, 1) := by decide +kernel
theorem d10_narrow_6 : decode c10_narrow 6 = .ok (.imul, 1) := by decide +kernel
theorem d10_narrow_7 : decode c10_narrow 7 = .ok (.istore 4, 2) := by decide +kernel
theorem d10_narrow_9 : decode c10_narrow 9 = .ok (.iload 4, 2) := by decide +kernel
theorem d10_narrow_11 : decode c10_narrow 11 = .ok (.sipush 400, 3) := by decide +kernel
theorem d10_narrow_14 : decode c10_narrow 14 = .ok (.iload_n 1, 1) := by decide +kernel
theorem d10_narrow_15 : decode c10_narrow 15 = .ok (.imul, 1) := by decide +kernel
theorem d10_narrow_16 : decode c10_narrow 16 = .ok (.aload_n 0, 1) := by decide +kernel
theorem d10_narrow_17 : decode c10_narrow 17 = .ok (.getfield 63, 3) := by decide +kernel
theorem d10_narrow_20 : decode c10_narrow 20 = .ok (.iload_n 1, 1) := by decide +kernel
theorem d10_narrow_21 : decode c10_narrow 21 = .ok (.iaload, 1) := by decide +kernel
theorem d10_narrow_22 : decode c10_narrow 22 = .ok (.iadd, 1) := by decide +kernel
theorem d10_narrow_23 : decode c10_narrow 23 = .ok (.if_icmp .ge 53, 3) := by decide +kernel
theorem d10_narrow_26 : decode c10_narrow 26 = .ok (.iload_n 3, 1) := by decide +kernel
theorem d10_narrow_27 : decode c10_narrow 27 = .ok (.aload_n 0, 1) := by decide +kernel
theorem d10_narrow_28 : decode c10_narrow 28 = .ok (.getfield 75, 3) := by decide +kernel
theorem d10_narrow_31 : decode c10_narrow 31 = .ok (.iload 4, 2) := by decide +kernel
theorem d10_narrow_33 : decode c10_narrow 33 = .ok (.iaload, 1) := by decide +kernel
theorem d10_narrow_34 : decode c10_narrow 34 = .ok (.ifCond .le 7, 3) := by decide +kernel
theorem d10_narrow_37 : decode c10_narrow 37 = .ok (.iconst 1, 1) := by decide +kernel
theorem d10_narrow_38 : decode c10_narrow 38 = .ok (.goto 4, 3) := by decide +kernel
theorem d10_narrow_41 : decode c10_narrow 41 = .ok (.iconst 0, 1) := by decide +kernel
theorem d10_narrow_42 : decode c10_narrow 42 = .ok (.iadd, 1) := by decide +kernel
theorem d10_narrow_43 : decode c10_narrow 43 = .ok (.istore_n 3, 1) := by decide +kernel
theorem d10_narrow_44 : decode c10_narrow 44 = .ok (.aload_n 0, 1) := by decide +kernel
theorem d10_narrow_45 : decode c10_narrow 45 = .ok (.getfield 78, 3) := by decide +kernel
theorem d10_narrow_48 : decode c10_narrow 48 = .ok (.iload 4, 2) := by decide +kernel
theorem d10_narrow_50 : decode c10_narrow 50 = .ok (.aload_n 0, 1) := by decide +kernel
theorem d10_narrow_51 : decode c10_narrow 51 = .ok (.getfield 75, 3) := by decide +kernel
theorem d10_narrow_54 : decode c10_narrow 54 = .ok (.iload 4, 2) := by decide +kernel
theorem d10_narrow_56 : decode c10_narrow 56 = .ok (.iaload, 1) := by decide +kernel
theorem d10_narrow_57 : decode c10_narrow 57 = .ok (.ifCond .le 11, 3) := by decide +kernel
theorem d10_narrow_60 : decode c10_narrow 60 = .ok (.iload_n 2, 1) := by decide +kernel
theorem d10_narrow_61 : decode c10_narrow 61 = .ok (.ifCond .ne 7, 3) := by decide +kernel
theorem d10_narrow_64 : decode c10_narrow 64 = .ok (.iconst 1, 1) := by decide +kernel
theorem d10_narrow_65 : decode c10_narrow 65 = .ok (.goto 4, 3) := by decide +kernel
theorem d10_narrow_68 : decode c10_narrow 68 = .ok (.iconst 0, 1) := by decide +kernel
theorem d10_narrow_69 : decode c10_narrow 69 = .ok (.bastore, 1) := by decide +kernel
theorem d10_narrow_70 : decode c10_narrow 70 = .ok (.iinc 4 1, 3) := by decide +kernel
theorem d10_narrow_73 : decode c10_narrow 73 = .ok (.goto (-64), 3) := by decide +kernel
theorem d10_narrow_76 : decode c10_narrow 76 = .ok (.iload_n 2, 1) := by decide +kernel
theorem d10_narrow_77 : decode c10_narrow 77 = .ok (.ifCond .ne 5, 3) := by decide +kernel
theorem d10_narrow_80 : decode c10_narrow 80 = .ok (.iconst 0, 1) := by decide +kernel
theorem d10_narrow_81 : decode c10_narrow 81 = .ok (.ireturn, 1) := by decide +kernel
theorem d10_narrow_82 : decode c10_narrow 82 = .ok (.iconst 0, 1) := by decide +kernel
theorem d10_narrow_83 : decode c10_narrow 83 = .ok (.istore 4, 2) := by decide +kernel
theorem d10_narrow_85 : decode c10_narrow 85 = .ok (.iload 4, 2) := by decide +kernel
theorem d10_narrow_87 : decode c10_narrow 87 = .ok (.iload_n 2, 1) := by decide +kernel
theorem d10_narrow_88 : decode c10_narrow 88 = .ok (.if_icmp .ge 123, 3) := by decide +kernel
theorem d10_narrow_91 : decode c10_narrow 91 = .ok (.iload 4, 2) := by decide +kernel
theorem d10_narrow_93 : decode c10_narrow 93 = .ok (.iload_n 3, 1) := by decide +kernel
theorem d10_narrow_94 : decode c10_narrow 94 = .ok (.if_icmp .ge 117, 3) := by decide +kernel
theorem d10_narrow_97 : decode c10_narrow 97 = .ok (.iconst (-1), 1) := by decide +kernel
theorem d10_narrow_98 : decode c10_narrow 98 = .ok (.istore 5, 2) := by decide +kernel
theorem d10_narrow_100 : decode c10_narrow 100 = .ok (.sipush 400, 3) := by decide +kernel
theorem d10_narrow_103 : decode c10_narrow 103 = .ok (.iload_n 1, 1) := by decide +kernel
theorem d10_narrow_104 : decode c10_narrow 104 = .ok (.imul, 1) := by decide +kernel
theorem d10_narrow_105 : decode c10_narrow 105 = .ok (.istore 6, 2) := by decide +kernel
theorem d10_narrow_107 : decode c10_narrow 107 = .ok (.iload 6, 2) := by decide +kernel
theorem d10_narrow_109 : decode c10_narrow 109 = .ok (.sipush 400, 3) := by decide +kernel
theorem d10_narrow_112 : decode c10_narrow 112 = .ok (.iload_n 1, 1) := by decide +kernel
theorem d10_narrow_113 : decode c10_narrow 113 = .ok (.imul, 1) := by decide +kernel
theorem d10_narrow_114 : decode c10_narrow 114 = .ok (.aload_n 0, 1) := by decide +kernel
theorem d10_narrow_115 : decode c10_narrow 115 = .ok (.getfield 63, 3) := by decide +kernel
theorem d10_narrow_118 : decode c10_narrow 118 = .ok (.iload_n 1, 1) := by decide +kernel
theorem d10_narrow_119 : decode c10_narrow 119 = .ok (.iaload, 1) := by decide +kernel
theorem d10_narrow_120 : decode c10_narrow 120 = .ok (.iadd, 1) := by decide +kernel
theorem d10_narrow_121 : decode c10_narrow 121 = .ok (.if_icmp .ge 76, 3) := by decide +kernel
theorem d10_narrow_124 : decode c10_narrow 124 = .ok (.aload_n 0, 1) := by decide +kernel
theorem d10_narrow_125 : decode c10_narrow 125 = .ok (.getfield 75, 3) := by decide +kernel
theorem d10_narrow_128 : decode c10_narrow 128 = .ok (.iload 6, 2) := by decide +kernel
theorem d10_narrow_130 : decode c10_narrow 130 = .ok (.iaload, 1) := by decide +kernel
theorem d10_narrow_131 : decode c10_narrow 131 = .ok (.ifCond .le 17, 3) := by decide +kernel
theorem d10_narrow_134 : decode c10_narrow 134 = .ok (.aload_n 0, 1) := by decide +kernel
theorem d10_narrow_135 : decode c10_narrow 135 = .ok (.getfield 78, 3) := by decide +kernel
theorem d10_narrow_138 : decode c10_narrow 138 = .ok (.iload 6, 2) := by decide +kernel
theorem d10_narrow_140 : decode c10_narrow 140 = .ok (.baload, 1) := by decide +kernel
theorem d10_narrow_141 : decode c10_narrow 141 = .ok (.ifCond .ne 7, 3) := by decide +kernel
theorem d10_narrow_144 : decode c10_narrow 144 = .ok (.iconst 1, 1) := by decide +kernel
theorem d10_narrow_145 : decode c10_narrow 145 = .ok (.goto 4, 3) := by decide +kernel
theorem d10_narrow_148 : decode c10_narrow 148 = .ok (.iconst 0, 1) := by decide +kernel
theorem d10_narrow_149 : decode c10_narrow 149 = .ok (.istore 7, 2) := by decide +kernel
theorem d10_narrow_151 : decode c10_narrow 151 = .ok (.iload 7, 2) := by decide +kernel
theorem d10_narrow_153 : decode c10_narrow 153 = .ok (.ifCond .eq 34, 3) := by decide +kernel
theorem d10_narrow_156 : decode c10_narrow 156 = .ok (.iload 5, 2) := by decide +kernel
theorem d10_narrow_158 : decode c10_narrow 158 = .ok (.ifCond .lt 24, 3) := by decide +kernel
theorem d10_narrow_161 : decode c10_narrow 161 = .ok (.aload_n 0, 1) := by decide +kernel
theorem d10_narrow_162 : decode c10_narrow 162 = .ok (.getfield 66, 3) := by decide +kernel
theorem d10_narrow_165 : decode c10_narrow 165 = .ok (.iconst 4, 1) := by decide +kernel
theorem d10_narrow_166 : decode c10_narrow 166 = .ok (.iload 6, 2) := by decide +kernel
theorem d10_narrow_168 : decode c10_narrow 168 = .ok (.imul, 1) := by decide +kernel
theorem d10_narrow_169 : decode c10_narrow 169 = .ok (.iaload, 1) := by decide +kernel
theorem d10_narrow_170 : decode c10_narrow 170 = .ok (.aload_n 0, 1) := by decide +kernel
theorem d10_narrow_171 : decode c10_narrow 171 = .ok (.getfield 66, 3) := by decide +kernel
theorem d10_narrow_174 : decode c10_narrow 174 = .ok (.iconst 4, 1) := by decide +kernel
theorem d10_narrow_175 : decode c10_narrow 175 = .ok (.iload 5, 2) := by decide +kernel
theorem d10_narrow_177 : decode c10_narrow 177 = .ok (.imul, 1) := by decide +kernel
theorem d10_narrow_178 : decode c10_narrow 178 = .ok (.iaload, 1) := by decide +kernel
theorem d10_narrow_179 : decode c10_narrow 179 = .ok (.if_icmp .ge 8, 3) := by decide +kernel
theorem d10_narrow_182 : decode c10_narrow 182 = .ok (.iload 6, 2) := by decide +kernel
theorem d10_narrow_184 : decode c10_narrow 184 = .ok (.goto 5, 3) := by decide +kernel
theorem d10_narrow_187 : decode c10_narrow 187 = .ok (.iload 5, 2) := by decide +kernel
theorem d10_narrow_189 : decode c10_narrow 189 = .ok (.istore 5, 2) := by decide +kernel
theorem d10_narrow_191 : decode c10_narrow 191 = .ok (.iinc 6 1, 3) := by decide +kernel
theorem d10_narrow_194 : decode c10_narrow 194 = .ok (.goto (-87), 3) := by decide +kernel
theorem d10_narrow_197 : decode c10_narrow 197 = .ok (.aload_n 0, 1) := by decide +kernel
theorem d10_narrow_198 : decode c10_narrow 198 = .ok (.getfield 78, 3) := by decide +kernel
theorem d10_narrow_201 : decode c10_narrow 201 = .ok (.iload 5, 2) := by decide +kernel
theorem d10_narrow_203 : decode c10_narrow 203 = .ok (.iconst 1, 1) := by decide +kernel
theorem d10_narrow_204 : decode c10_narrow 204 = .ok (.bastore, 1) := by decide +kernel
theorem d10_narrow_205 : decode c10_narrow 205 = .ok (.iinc 4 1, 3) := by decide +kernel
theorem d10_narrow_208 : decode c10_narrow 208 = .ok (.goto (-123), 3) := by decide +kernel
theorem d10_narrow_211 : decode c10_narrow 211 = .ok (.iload_n 3, 1) := by decide +kernel
theorem d10_narrow_212 : decode c10_narrow 212 = .ok (.iload_n 2, 1) := by decide +kernel
theorem d10_narrow_213 : decode c10_narrow 213 = .ok (.if_icmp .le 7, 3) := by decide +kernel
theorem d10_narrow_216 : decode c10_narrow 216 = .ok (.iconst 1, 1) := by decide +kernel
theorem d10_narrow_217 : decode c10_narrow 217 = .ok (.goto 4, 3) := by decide +kernel
theorem d10_narrow_220 : decode c10_narrow 220 = .ok (.iconst 0, 1) := by decide +kernel
theorem d10_narrow_221 : decode c10_narrow 221 = .ok (.ireturn, 1) := by decide +kernel
def t10_narrow (l : Launch) (Po : ri_O) : List ri_S := [i_con 1 0,
  i_is 2 3,
  i_con 3 400,
  i_il 4 1,
  i_bin 5 (fun x y => x * y),
  i_is 6 4,
  i_il 7 4,
  i_con 8 400,
  i_il 9 1,
  i_bin 10 (fun x y => x * y),
  i_al 11 0,
  i_get 12 10 19,
  i_il 13 1,
  i_ald 14 0,
  i_bin 15 (fun x y => x + y),
  i_icmp 16 43 (fun x y => y ≤ x),
  i_il 17 3,
  i_al 18 0,
  i_get 19 10 23,
  i_il 20 4,
  i_ald 21 0,
  i_if 22 24 (fun x => x ≤ 0),
  i_con 23 1,
  i_goto 25,
  i_con 25 0,
  i_bin 26 (fun x y => x + y),
  i_is 27 3,
  i_al 28 0,
  i_get 29 10 24,
  i_il 30 4,
  i_al 31 0,
  i_get 32 10 23,
  i_il 33 4,
  i_ald 34 0,
  i_if 35 39 (fun x => x ≤ 0),
  i_il 36 2,
  i_if 37 39 (fun x => ¬ x = 0),
  i_con 38 1,
  i_goto 40,
  i_con 40 0,
  i_ast 41 1 (fun x => vp_nar .boolean x),
  i_inc 42 4 1,
  i_goto 6,
  i_il 44 2,
  i_if 45 47 (fun x => ¬ x = 0),
  i_con 46 0,
  i_zret Po 0 0,
  i_con 48 0,
  i_is 49 4,
  i_il 50 4,
  i_il 51 2,
  i_icmp 52 115 (fun x y => y ≤ x),
  i_il 53 4,
  i_il 54 3,
  i_icmp 55 115 (fun x y => y ≤ x),
  i_con 56 (-1),
  i_is 57 5,
  i_con 58 400,
  i_il 59 1,
  i_bin 60 (fun x y => x * y),
  i_is 61 6,
  i_il 62 6,
  i_con 63 400,
  i_il 64 1,
  i_bin 65 (fun x y => x * y),
  i_al 66 0,
  i_get 67 10 19,
  i_il 68 1,
  i_ald 69 0,
  i_bin 70 (fun x y => x + y),
  i_icmp 71 108 (fun x y => y ≤ x),
  i_al 72 0,
  i_get 73 10 23,
  i_il 74 6,
  i_ald 75 0,
  i_if 76 83 (fun x => x ≤ 0),
  i_al 77 0,
  i_get 78 10 24,
  i_il 79 6,
  i_ald 80 1,
  i_if 81 83 (fun x => ¬ x = 0),
  i_con 82 1,
  i_goto 84,
  i_con 84 0,
  i_is 85 7,
  i_il 86 7,
  i_if 87 104 (fun x => x = 0),
  i_il 88 5,
  i_if 89 102 (fun x => x < 0),
  i_al 90 0,
  i_get 91 10 20,
  i_con 92 4,
  i_il 93 6,
  i_bin 94 (fun x y => x * y),
  i_ald 95 0,
  i_al 96 0,
  i_get 97 10 20,
  i_con 98 4,
  i_il 99 5,
  i_bin 100 (fun x y => x * y),
  i_ald 101 0,
  i_icmp 102 104 (fun x y => y ≤ x),
  i_il 103 6,
  i_goto 105,
  i_il 105 5,
  i_is 106 5,
  i_inc 107 6 1,
  i_goto 61,
  i_al 109 0,
  i_get 110 10 24,
  i_il 111 5,
  i_con 112 1,
  i_ast 113 1 (fun x => vp_nar .boolean x),
  i_inc 114 4 1,
  i_goto 49,
  i_il 116 3,
  i_il 117 2,
  i_icmp 118 120 (fun x y => x ≤ y),
  i_con 119 1,
  i_goto 121,
  i_con 121 0,
  i_zret Po 0 0]
set_option maxRecDepth 20000 in
set_option maxHeartbeats 4000000 in
theorem z10_narrow (l : Launch) (Po : ri_O) (p : Program) (e : Env) (s : State) (m : MethodId) (args : Array Value) (below : List Frame) (meth : Method) (c : Code) (D : va_G) (ka : Nat → ClassId) (sa : Nat → Nat) (base : Nat) (X : ri_X p s m args c c10_narrow 8 w10_narrow "ChoraleSearchModel" D ka sa base) (hret : meth.sig.returnType = (some .boolean)) (hlocks : meth.locks = false) (hname : meth.name = "narrow") : ri_clo (ri_W p l e r10_narrow s m args below meth c D ka sa base 8 (MQ below (ri_Qc D ka sa base Po) args s 0 0 (fun q => base ≤ q)) p10_narrow) (t10_narrow l Po) := by
  refine ri_clo_of ?_
  unfold t10_narrow
  exact ⟨s_iconst X d10_narrow_0 rfl rfl,
    s_istore_n X d10_narrow_1 rfl (by decide) rfl,
    s_sipush X d10_narrow_2 rfl rfl,
    s_iload_n X d10_narrow_5 rfl rfl,
    s_imul X d10_narrow_6 rfl,
    s_istore X d10_narrow_7 (by decide) rfl,
    s_iload X d10_narrow_9 rfl,
    s_sipush X d10_narrow_11 rfl rfl,
    s_iload_n X d10_narrow_14 rfl rfl,
    s_imul X d10_narrow_15 rfl,
    s_aload_n X d10_narrow_16 rfl rfl,
    s_get X (ci := 10) (f := 19) rfl (fun w h => List.mem_cons_of_mem _ (uC_10 w h)) (by decide) (List.mem_cons_of_mem _ mgw_833) d10_narrow_17 rfl,
    s_iload_n X d10_narrow_20 rfl rfl,
    s_iald X rfl d10_narrow_21 rfl,
    s_iadd X d10_narrow_22 rfl,
    s_icmp_ge X d10_narrow_23 rfl rfl,
    s_iload_n X d10_narrow_26 rfl rfl,
    s_aload_n X d10_narrow_27 rfl rfl,
    s_get X (ci := 10) (f := 23) rfl (fun w h => List.mem_cons_of_mem _ (uC_10 w h)) (by decide) (List.mem_cons_of_mem _ mgw_837) d10_narrow_28 rfl,
    s_iload X d10_narrow_31 rfl,
    s_iald X rfl d10_narrow_33 rfl,
    s_if_le X d10_narrow_34 rfl rfl,
    s_iconst X d10_narrow_37 rfl rfl,
    s_goto X d10_narrow_38 rfl,
    s_iconst X d10_narrow_41 rfl rfl,
    s_iadd X d10_narrow_42 rfl,
    s_istore_n X d10_narrow_43 rfl (by decide) rfl,
    s_aload_n X d10_narrow_44 rfl rfl,
    s_get X (ci := 10) (f := 24) rfl (fun w h => List.mem_cons_of_mem _ (uC_10 w h)) (by decide) (List.mem_cons_of_mem _ mgw_838) d10_narrow_45 rfl,
    s_iload X d10_narrow_48 rfl,
    s_aload_n X d10_narrow_50 rfl rfl,
    s_get X (ci := 10) (f := 23) rfl (fun w h => List.mem_cons_of_mem _ (uC_10 w h)) (by decide) (List.mem_cons_of_mem _ mgw_837) d10_narrow_51 rfl,
    s_iload X d10_narrow_54 rfl,
    s_iald X rfl d10_narrow_56 rfl,
    s_if_le X d10_narrow_57 rfl rfl,
    s_iload_n X d10_narrow_60 rfl rfl,
    s_if_ne X d10_narrow_61 rfl rfl,
    s_iconst X d10_narrow_64 rfl rfl,
    s_goto X d10_narrow_65 rfl,
    s_iconst X d10_narrow_68 rfl rfl,
    s_zast X rfl d10_narrow_69 rfl,
    s_iinc X d10_narrow_70 rfl (by decide) rfl,
    s_goto X d10_narrow_73 rfl,
    s_iload_n X d10_narrow_76 rfl rfl,
    s_if_ne X d10_narrow_77 rfl rfl,
    s_iconst X d10_narrow_80 rfl rfl,
    s_zret X hret hlocks d10_narrow_81,
    s_iconst X d10_narrow_82 rfl rfl,
    s_istore X d10_narrow_83 (by decide) rfl,
    s_iload X d10_narrow_85 rfl,
    s_iload_n X d10_narrow_87 rfl rfl,
    s_icmp_ge X d10_narrow_88 rfl rfl,
    s_iload X d10_narrow_91 rfl,
    s_iload_n X d10_narrow_93 rfl rfl,
    s_icmp_ge X d10_narrow_94 rfl rfl,
    s_iconst X d10_narrow_97 rfl rfl,
    s_istore X d10_narrow_98 (by decide) rfl,
    s_sipush X d10_narrow_100 rfl rfl,
    s_iload_n X d10_narrow_103 rfl rfl,
    s_imul X d10_narrow_104 rfl,
    s_istore X d10_narrow_105 (by decide) rfl,
    s_iload X d10_narrow_107 rfl,
    s_sipush X d10_narrow_109 rfl rfl,
    s_iload_n X d10_narrow_112 rfl rfl,
    s_imul X d10_narrow_113 rfl,
    s_aload_n X d10_narrow_114 rfl rfl,
    s_get X (ci := 10) (f := 19) rfl (fun w h => List.mem_cons_of_mem _ (uC_10 w h)) (by decide) (List.mem_cons_of_mem _ mgw_833) d10_narrow_115 rfl,
    s_iload_n X d10_narrow_118 rfl rfl,
    s_iald X rfl d10_narrow_119 rfl,
    s_iadd X d10_narrow_120 rfl,
    s_icmp_ge X d10_narrow_121 rfl rfl,
    s_aload_n X d10_narrow_124 rfl rfl,
    s_get X (ci := 10) (f := 23) rfl (fun w h => List.mem_cons_of_mem _ (uC_10 w h)) (by decide) (List.mem_cons_of_mem _ mgw_837) d10_narrow_125 rfl,
    s_iload X d10_narrow_128 rfl,
    s_iald X rfl d10_narrow_130 rfl,
    s_if_le X d10_narrow_131 rfl rfl,
    s_aload_n X d10_narrow_134 rfl rfl,
    s_get X (ci := 10) (f := 24) rfl (fun w h => List.mem_cons_of_mem _ (uC_10 w h)) (by decide) (List.mem_cons_of_mem _ mgw_838) d10_narrow_135 rfl,
    s_iload X d10_narrow_138 rfl,
    s_zald X rfl d10_narrow_140 rfl,
    s_if_ne X d10_narrow_141 rfl rfl,
    s_iconst X d10_narrow_144 rfl rfl,
    s_goto X d10_narrow_145 rfl,
    s_iconst X d10_narrow_148 rfl rfl,
    s_istore X d10_narrow_149 (by decide) rfl,
    s_iload X d10_narrow_151 rfl,
    s_if_eq X d10_narrow_153 rfl rfl,
    s_iload X d10_narrow_156 rfl,
    s_if_lt X d10_narrow_158 rfl rfl,
    s_aload_n X d10_narrow_161 rfl rfl,
    s_get X (ci := 10) (f := 20) rfl (fun w h => List.mem_cons_of_mem _ (uC_10 w h)) (by decide) (List.mem_cons_of_mem _ mgw_834) d10_narrow_162 rfl,
    s_iconst X d10_narrow_165 rfl rfl,
    s_iload X d10_narrow_166 rfl,
    s_imul X d10_narrow_168 rfl,
    s_iald X rfl d10_narrow_169 rfl,
    s_aload_n X d10_narrow_170 rfl rfl,
    s_get X (ci := 10) (f := 20) rfl (fun w h => List.mem_cons_of_mem _ (uC_10 w h)) (by decide) (List.mem_cons_of_mem _ mgw_834) d10_narrow_171 rfl,
    s_iconst X d10_narrow_174 rfl rfl,
    s_iload X d10_narrow_175 rfl,
    s_imul X d10_narrow_177 rfl,
    s_iald X rfl d10_narrow_178 rfl,
    s_icmp_ge X d10_narrow_179 rfl rfl,
    s_iload X d10_narrow_182 rfl,
    s_goto X d10_narrow_184 rfl,
    s_iload X d10_narrow_187 rfl,
    s_istore X d10_narrow_189 (by decide) rfl,
    s_iinc X d10_narrow_191 rfl (by decide) rfl,
    s_goto X d10_narrow_194 rfl,
    s_aload_n X d10_narrow_197 rfl rfl,
    s_get X (ci := 10) (f := 24) rfl (fun w h => List.mem_cons_of_mem _ (uC_10 w h)) (by decide) (List.mem_cons_of_mem _ mgw_838) d10_narrow_198 rfl,
    s_iload X d10_narrow_201 rfl,
    s_iconst X d10_narrow_203 rfl rfl,
    s_zast X rfl d10_narrow_204 rfl,
    s_iinc X d10_narrow_205 rfl (by decide) rfl,
    s_goto X d10_narrow_208 rfl,
    s_iload_n X d10_narrow_211 rfl rfl,
    s_iload_n X d10_narrow_212 rfl rfl,
    s_icmp_le X d10_narrow_213 rfl rfl,
    s_iconst X d10_narrow_216 rfl rfl,
    s_goto X d10_narrow_217 rfl,
    s_iconst X d10_narrow_220 rfl rfl,
    s_zret X hret hlocks d10_narrow_221, trivial⟩
theorem d10_takeRows_0 : decode c10_takeRows 0 = .ok (.aload_n 0, 1) := by decide +kernel
theorem d10_takeRows_1 : decode c10_takeRows 1 = .ok (.iconst 0, 1) := by decide +kernel
theorem d10_takeRows_2 : decode c10_takeRows 2 = .ok (.putfield 123, 3) := by decide +kernel
theorem d10_takeRows_5 : decode c10_takeRows 5 = .ok (.iconst 0, 1) := by decide +kernel
theorem d10_takeRows_6 : decode c10_takeRows 6 = .ok (.istore_n 1, 1) := by decide +kernel
theorem d10_takeRows_7 : decode c10_takeRows 7 = .ok (.iload_n 1, 1) := by decide +kernel
theorem d10_takeRows_8 : decode c10_takeRows 8 = .ok (.aload_n 0, 1) := by decide +kernel
theorem d10_takeRows_9 : decode c10_takeRows 9 = .ok (.getfield 63, 3) := by decide +kernel
theorem d10_takeRows_12 : decode c10_takeRows 12 = .ok (.iconst 0, 1) := by decide +kernel
theorem d10_takeRows_13 : decode c10_takeRows 13 = .ok (.iaload, 1) := by decide +kernel
theorem d10_takeRows_14 : decode c10_takeRows 14 = .ok (.if_icmp .ge 208, 3) := by decide +kernel
theorem d10_takeRows_17 : decode c10_takeRows 17 = .ok (.iconst 0, 1) := by decide +kernel
theorem d10_takeRows_18 : decode c10_takeRows 18 = .ok (.istore_n 2, 1) := by decide +kernel
theorem d10_takeRows_19 : decode c10_takeRows 19 = .ok (.aload_n 0, 1) := by decide +kernel
theorem d10_takeRows_20 : decode c10_takeRows 20 = .ok (.getfield 78, 3) := by decide +kernel
theorem d10_takeRows_23 : decode c10_takeRows 23 = .ok (.iload_n 1, 1) := by decide +kernel
theorem d10_takeRows_24 : decode c10_takeRows 24 = .ok (.baload, 1) := by decide +kernel
theorem d10_takeRows_25 : decode c10_takeRows 25 = .ok (.ifCond .eq 191, 3) := by decide +kernel
theorem d10_takeRows_28 : decode c10_takeRows 28 = .ok (.iload_n 2, 1) := by decide +kernel
theorem d10_takeRows_29 : decode c10_takeRows 29 = .ok (.aload_n 0, 1) := by decide +kernel
theorem d10_takeRows_30 : decode c10_takeRows 30 = .ok (.getfield 75, 3) := by decide +kernel
theorem d10_takeRows_33 : decode c10_takeRows 33 = .ok (.iload_n 1, 1) := by decide +kernel
theorem d10_takeRows_34 : decode c10_takeRows 34 = .ok (.iaload, 1) := by decide +kernel
theorem d10_takeRows_35 : decode c10_takeRows 35 = .ok (.if_icmp .ge 181, 3) := by decide +kernel
theorem d10_takeRows_38 : decode c10_takeRows 38 = .ok (.aload_n 0, 1) := by decide +kernel
theorem d10_takeRows_39 : decode c10_takeRows 39 = .ok (.getfield 66, 3) := by decide +kernel
theorem d10_takeRows_42 : decode c10_takeRows 42 = .ok (.iconst 4, 1) := by decide +kernel
theorem d10_takeRows_43 : decode c10_takeRows 43 = .ok (.iload_n 1, 1) := by decide +kernel
theorem d10_takeRows_44 : decode c10_takeRows 44 = .ok (.imul, 1) := by decide +kernel
theorem d10_takeRows_45 : decode c10_takeRows 45 = .ok (.iload_n 2, 1) := by decide +kernel
theorem d10_takeRows_46 : decode c10_takeRows 46 = .ok (.iadd, 1) := by decide +kernel
theorem d10_takeRows_47 : decode c10_takeRows 47 = .ok (.iaload, 1) := by decide +kernel
theorem d10_takeRows_48 : decode c10_takeRows 48 = .ok (.istore_n 3, 1) := by decide +kernel
theorem d10_takeRows_49 : decode c10_takeRows 49 = .ok (.aload_n 0, 1) := by decide +kernel
theorem d10_takeRows_50 : decode c10_takeRows 50 = .ok (.getfield 123, 3) := by decide +kernel
theorem d10_takeRows_53 : decode c10_takeRows 53 = .ok (.istore 4, 2) := by decide +kernel
theorem d10_takeRows_55 : decode c10_takeRows 55 = .ok (.iload 4, 2) := by decide +kernel
theorem d10_takeRows_57 : decode c10_takeRows 57 = .ok (.ifCond .le 22, 3) := by decide +kernel
theorem d10_takeRows_60 : decode c10_takeRows 60 = .ok (.aload_n 0, 1) := by decide +kernel
theorem d10_takeRows_61 : decode c10_takeRows 61 = .ok (.getfield 90, 3) := by decide +kernel
theorem d10_takeRows_64 : decode c10_takeRows 64 = .ok (.iload 4, 2) := by decide +kernel
theorem d10_takeRows_66 : decode c10_takeRows 66 = .ok (.iconst 1, 1) := by decide +kernel
theorem d10_takeRows_67 : decode c10_takeRows 67 = .ok (.isub, 1) := by decide +kernel
theorem d10_takeRows_68 : decode c10_takeRows 68 = .ok (.iaload, 1) := by decide +kernel
theorem d10_takeRows_69 : decode c10_takeRows 69 = .ok (.iload_n 3, 1) := by decide +kernel
theorem d10_takeRows_70 : decode c10_takeRows 70 = .ok (.if_icmp .le 9, 3) := by decide +kernel
theorem d10_takeRows_73 : decode c10_takeRows 73 = .ok (.iinc 4 (-1), 3) := by decide +kernel
theorem d10_takeRows_76 : decode c10_takeRows 76 = .ok (.goto (-21), 3) := by decide +kernel
theorem d10_takeRows_79 : decode c10_takeRows 79 = .ok (.iload 4, 2) := by decide +kernel
theorem d10_takeRows_81 : decode c10_takeRows 81 = .ok (.iconst 4, 1) := by decide +kernel
theorem d10_takeRows_82 : decode c10_takeRows 82 = .ok (.if_icmp .ge 128, 3) := by decide +kernel
theorem d10_takeRows_85 : decode c10_takeRows 85 = .ok (.aload_n 0, 1) := by decide +kernel
theorem d10_takeRows_86 : decode c10_takeRows 86 = .ok (.getfield 123, 3) := by decide +kernel
theorem d10_takeRows_89 : decode c10_takeRows 89 = .ok (.iconst 4, 1) := by decide +kernel
theorem d10_takeRows_90 : decode c10_takeRows 90 = .ok (.if_icmp .ge 10, 3) := by decide +kernel
theorem d10_takeRows_93 : decode c10_takeRows 93 = .ok (.aload_n 0, 1) := by decide +kernel
theorem d10_takeRows_94 : decode c10_takeRows 94 = .ok (.getfield 123, 3) := by decide +kernel
theorem d10_takeRows_97 : decode c10_takeRows 97 = .ok (.goto 4, 3) := by decide +kernel
theorem d10_takeRows_100 : decode c10_takeRows 100 = .ok (.iconst 3, 1) := by decide +kernel
theorem d10_takeRows_101 : decode c10_takeRows 101 = .ok (.istore 5, 2) := by decide +kernel
theorem d10_takeRows_103 : decode c10_takeRows 103 = .ok (.iload 5, 2) := by decide +kernel
theorem d10_takeRows_105 : decode c10_takeRows 105 = .ok (.iload 4, 2) := by decide +kernel
theorem d10_takeRows_107 : decode c10_takeRows 107 = .ok (.if_icmp .le 57, 3) := by decide +kernel
theorem d10_takeRows_110 : decode c10_takeRows 110 = .ok (.aload_n 0, 1) := by decide +kernel
theorem d10_takeRows_111 : decode c10_takeRows 111 = .ok (.getfield 90, 3) := by decide +kernel
theorem d10_takeRows_114 : decode c10_takeRows 114 = .ok (.iload 5, 2) := by decide +kernel
theorem d10_takeRows_116 : decode c10_takeRows 116 = .ok (.aload_n 0, 1) := by decide +kernel
theorem d10_takeRows_117 : decode c10_takeRows 117 = .ok (.getfield 90, 3) := by decide +kernel
theorem d10_takeRows_120 : decode c10_takeRows 120 = .ok (.iload 5, 2) := by decide +kernel
theorem d10_takeRows_122 : decode c10_takeRows 122 = .ok (.iconst 1, 1) := by decide +kernel
theorem d10_takeRows_123 : decode c10_takeRows 123 = .ok (.isub, 1) := by decide +kernel
theorem d10_takeRows_124 : decode c10_takeRows 124 = .ok (.iaload, 1) := by decide +kernel
theorem d10_takeRows_125 : decode c10_takeRows 125 = .ok (.iastore, 1) := by decide +kernel
theorem d10_takeRows_126 : decode c10_takeRows 126 = .ok (.aload_n 0, 1) := by decide +kernel
theorem d10_takeRows_127 : decode c10_takeRows 127 = .ok (.getfield 96, 3) := by decide +kernel
theorem d10_takeRows_130 : decode c10_takeRows 130 = .ok (.iload 5, 2) := by decide +kernel
theorem d10_takeRows_132 : decode c10_takeRows 132 = .ok (.aload_n 0, 1) := by decide +kernel
theorem d10_takeRows_133 : decode c10_takeRows 133 = .ok (.getfield 96, 3) := by decide +kernel
theorem d10_takeRows_136 : decode c10_takeRows 136 = .ok (.iload 5, 2) := by decide +kernel
theorem d10_takeRows_138 : decode c10_takeRows 138 = .ok (.iconst 1, 1) := by decide +kernel
theorem d10_takeRows_139 : decode c10_takeRows 139 = .ok (.isub, 1) := by decide +kernel
theorem d10_takeRows_140 : decode c10_takeRows 140 = .ok (.iaload, 1) := by decide +kernel
theorem d10_takeRows_141 : decode c10_takeRows 141 = .ok (.iastore, 1) := by decide +kernel
theorem d10_takeRows_142 : decode c10_takeRows 142 = .ok (.aload_n 0, 1) := by decide +kernel
theorem d10_takeRows_143 : decode c10_takeRows 143 = .ok (.getfield 99, 3) := by decide +kernel
theorem d10_takeRows_146 : decode c10_takeRows 146 = .ok (.iload 5, 2) := by decide +kernel
theorem d10_takeRows_148 : decode c10_takeRows 148 = .ok (.aload_n 0, 1) := by decide +kernel
theorem d10_takeRows_149 : decode c10_takeRows 149 = .ok (.getfield 99, 3) := by decide +kernel
theorem d10_takeRows_152 : decode c10_takeRows 152 = .ok (.iload 5, 2) := by decide +kernel
theorem d10_takeRows_154 : decode c10_takeRows 154 = .ok (.iconst 1, 1) := by decide +kernel
theorem d10_takeRows_155 : decode c10_takeRows 155 = .ok (.isub, 1) := by decide +kernel
theorem d10_takeRows_156 : decode c10_takeRows 156 = .ok (.iaload, 1) := by decide +kernel
theorem d10_takeRows_157 : decode c10_takeRows 157 = .ok (.iastore, 1) := by decide +kernel
theorem d10_takeRows_158 : decode c10_takeRows 158 = .ok (.iinc 5 (-1), 3) := by decide +kernel
theorem d10_takeRows_161 : decode c10_takeRows 161 = .ok (.goto (-58), 3) := by decide +kernel
theorem d10_takeRows_164 : decode c10_takeRows 164 = .ok (.aload_n 0, 1) := by decide +kernel
theorem d10_takeRows_165 : decode c10_takeRows 165 = .ok (.getfield 90, 3) := by decide +kernel
theorem d10_takeRows_168 : decode c10_takeRows 168 = .ok (.iload 4, 2) := by decide +kernel
theorem d10_takeRows_170 : decode c10_takeRows 170 = .ok (.iload_n 3, 1) := by decide +kernel
theorem d10_takeRows_171 : decode c10_takeRows 171 = .ok (.iastore, 1) := by decide +kernel
theorem d10_takeRows_172 : decode c10_takeRows 172 = .ok (.aload_n 0, 1) := by decide +kernel
theorem d10_takeRows_173 : decode c10_takeRows 173 = .ok (.getfield 96, 3) := by decide +kernel
theorem d10_takeRows_176 : decode c10_takeRows 176 = .ok (.iload 4, 2) := by decide +kernel
theorem d10_takeRows_178 : decode c10_takeRows 178 = .ok (.iload_n 1, 1) := by decide +kernel
theorem d10_takeRows_179 : decode c10_takeRows 179 = .ok (.iastore, 1) := by decide +kernel
theorem d10_takeRows_180 : decode c10_takeRows 180 = .ok (.aload_n 0, 1) := by decide +kernel
theorem d10_takeRows_181 : decode c10_takeRows 181 = .ok (.getfield 99, 3) := by decide +kernel
theorem d10_takeRows_184 : decode c10_takeRows 184 = .ok (.iload 4, 2) := by decide +kernel
theorem d10_takeRows_186 : decode c10_takeRows 186 = .ok (.iload_n 2, 1) := by decide +kernel
theorem d10_takeRows_187 : decode c10_takeRows 187 = .ok (.iastore, 1) := by decide +kernel
theorem d10_takeRows_188 : decode c10_takeRows 188 = .ok (.aload_n 0, 1) := by decide +kernel
theorem d10_takeRows_189 : decode c10_takeRows 189 = .ok (.aload_n 0, 1) := by decide +kernel
theorem d10_takeRows_190 : decode c10_takeRows 190 = .ok (.getfield 123, 3) := by decide +kernel
theorem d10_takeRows_193 : decode c10_takeRows 193 = .ok (.iconst 4, 1) := by decide +kernel
theorem d10_takeRows_194 : decode c10_takeRows 194 = .ok (.if_icmp .ge 12, 3) := by decide +kernel
theorem d10_takeRows_197 : decode c10_takeRows 197 = .ok (.aload_n 0, 1) := by decide +kernel
theorem d10_takeRows_198 : decode c10_takeRows 198 = .ok (.getfield 123, 3) := by decide +kernel
theorem d10_takeRows_201 : decode c10_takeRows 201 = .ok (.iconst 1, 1) := by decide +kernel
theorem d10_takeRows_202 : decode c10_takeRows 202 = .ok (.iadd, 1) := by decide +kernel
theorem d10_takeRows_203 : decode c10_takeRows 203 = .ok (.goto 4, 3) := by decide +kernel
theorem d10_takeRows_206 : decode c10_takeRows 206 = .ok (.iconst 4, 1) := by decide +kernel
theorem d10_takeRows_207 : decode c10_takeRows 207 = .ok (.putfield 123, 3) := by decide +kernel
theorem d10_takeRows_210 : decode c10_takeRows 210 = .ok (.iinc 2 1, 3) := by decide +kernel
theorem d10_takeRows_213 : decode c10_takeRows 213 = .ok (.goto (-194), 3) := by decide +kernel
theorem d10_takeRows_216 : decode c10_takeRows 216 = .ok (.iinc 1 1, 3) := by decide +kernel
theorem d10_takeRows_219 : decode c10_takeRows 219 = .ok (.goto (-212), 3) := by decide +kernel
theorem d10_takeRows_222 : decode c10_takeRows 222 = .ok (.iconst 0, 1) := by decide +kernel
theorem d10_takeRows_223 : decode c10_takeRows 223 = .ok (.istore_n 1, 1) := by decide +kernel
theorem d10_takeRows_224 : decode c10_takeRows 224 = .ok (.iload_n 1, 1) := by decide +kernel
theorem d10_takeRows_225 : decode c10_takeRows 225 = .ok (.aload_n 0, 1) := by decide +kernel
theorem d10_takeRows_226 : decode c10_takeRows 226 = .ok (.getfield 123, 3) := by decide +kernel
theorem d10_takeRows_229 : decode c10_takeRows 229 = .ok (.if_icmp .ge 125, 3) := by decide +kernel
theorem d10_takeRows_232 : decode c10_takeRows 232 = .ok (.aload_n 0, 1) := by decide +kernel
theorem d10_takeRows_233 : decode c10_takeRows 233 = .ok (.getfield 96, 3) := by decide +kernel
theorem d10_takeRows_236 : decode c10_takeRows 236 = .ok (.iload_n 1, 1) := by decide +kernel
theorem d10_takeRows_237 : decode c10_takeRows 237 = .ok (.iaload, 1) := by decide +kernel
theorem d10_takeRows_238 : decode c10_takeRows 238 = .ok (.istore_n 2, 1) := by decide +kernel
theorem d10_takeRows_239 : decode c10_takeRows 239 = .ok (.aload_n 0, 1) := by decide +kernel
theorem d10_takeRows_240 : decode c10_takeRows 240 = .ok (.getfield 99, 3) := by decide +kernel
theorem d10_takeRows_243 : decode c10_takeRows 243 = .ok (.iload_n 1, 1) := by decide +kernel
theorem d10_takeRows_244 : decode c10_takeRows 244 = .ok (.iaload, 1) := by decide +kernel
theorem d10_takeRows_245 : decode c10_takeRows 245 = .ok (.istore_n 3, 1) := by decide +kernel
theorem d10_takeRows_246 : decode c10_takeRows 246 = .ok (.iconst 0, 1) := by decide +kernel
theorem d10_takeRows_247 : decode c10_takeRows 247 = .ok (.istore 4, 2) := by decide +kernel
theorem d10_takeRows_249 : decode c10_takeRows 249 = .ok (.iload 4, 2) := by decide +kernel
theorem d10_takeRows_251 : decode c10_takeRows 251 = .ok (.aload_n 0, 1) := by decide +kernel
theorem d10_takeRows_252 : decode c10_takeRows 252 = .ok (.getfield 26, 3) := by decide +kernel
theorem d10_takeRows_255 : decode c10_takeRows 255 = .ok (.if_icmp .ge 93, 3) := by decide +kernel
theorem d10_takeRows_258 : decode c10_takeRows 258 = .ok (.iconst 0, 1) := by decide +kernel
theorem d10_takeRows_259 : decode c10_takeRows 259 = .ok (.istore 5, 2) := by decide +kernel
theorem d10_takeRows_261 : decode c10_takeRows 261 = .ok (.iload 5, 2) := by decide +kernel
theorem d10_takeRows_263 : decode c10_takeRows 263 = .ok (.iconst 4, 1) := by decide +kernel
theorem d10_takeRows_264 : decode c10_takeRows 264 = .ok (.if_icmp .ge 37, 3) := by decide +kernel
theorem d10_takeRows_267 : decode c10_takeRows 267 = .ok (.aload_n 0, 1) := by decide +kernel
theorem d10_takeRows_268 : decode c10_takeRows 268 = .ok (.getfield 84, 3) := by decide +kernel
theorem d10_takeRows_271 : decode c10_takeRows 271 = .ok (.bipush 64, 2) := by decide +kernel
theorem d10_takeRows_273 : decode c10_takeRows 273 = .ok (.iload_n 1, 1) := by decide +kernel
theorem d10_takeRows_274 : decode c10_takeRows 274 = .ok (.imul, 1) := by decide +kernel
theorem d10_takeRows_275 : decode c10_takeRows 275 = .ok (.iconst 4, 1) := by decide +kernel
theorem d10_takeRows_276 : decode c10_takeRows 276 = .ok (.iload 4, 2) := by decide +kernel
theorem d10_takeRows_278 : decode c10_takeRows 278 = .ok (.imul, 1) := by decide +kernel
theorem d10_takeRows_279 : decode c10_takeRows 279 = .ok (.iadd, 1) := by decide +kernel
theorem d10_takeRows_280 : decode c10_takeRows 280 = .ok (.iload 5, 2) := by decide +kernel
theorem d10_takeRows_282 : decode c10_takeRows 282 = .ok (.iadd, 1) := by decide +kernel
theorem d10_takeRows_283 : decode c10_takeRows 283 = .ok (.aload_n 0, 1) := by decide +kernel
theorem d10_takeRows_284 : decode c10_takeRows 284 = .ok (.getfield 54, 3) := by decide +kernel
theorem d10_takeRows_287 : decode c10_takeRows 287 = .ok (.iconst 4, 1) := by decide +kernel
theorem d10_takeRows_288 : decode c10_takeRows 288 = .ok (.iload_n 2, 1) := by decide +kernel
theorem d10_takeRows_289 : decode c10_takeRows 289 = .ok (.imul, 1) := by decide +kernel
theorem d10_takeRows_290 : decode c10_takeRows 290 = .ok (.iload 5, 2) := by decide +kernel
theorem d10_takeRows_292 : decode c10_takeRows 292 = .ok (.iadd, 1) := by decide +kernel
theorem d10_takeRows_293 : decode c10_takeRows 293 = .ok (.iaload, 1) := by decide +kernel
theorem d10_takeRows_294 : decode c10_takeRows 294 = .ok (.iastore, 1) := by decide +kernel
theorem d10_takeRows_295 : decode c10_takeRows 295 = .ok (.iinc 5 1, 3) := by decide +kernel
theorem d10_takeRows_298 : decode c10_takeRows 298 = .ok (.goto (-37), 3) := by decide +kernel
theorem d10_takeRows_301 : decode c10_takeRows 301 = .ok (.aload_n 0, 1) := by decide +kernel
theorem d10_takeRows_302 : decode c10_takeRows 302 = .ok (.getfield 87, 3) := by decide +kernel
theorem d10_takeRows_305 : decode c10_takeRows 305 = .ok (.bipush 16, 2) := by decide +kernel
theorem d10_takeRows_307 : decode c10_takeRows 307 = .ok (.iload_n 1, 1) := by decide +kernel
theorem d10_takeRows_308 : decode c10_takeRows 308 = .ok (.imul, 1) := by decide +kernel
theorem d10_takeRows_309 : decode c10_takeRows 309 = .ok (.iload 4, 2) := by decide +kernel
theorem d10_takeRows_311 : decode c10_takeRows 311 = .ok (.iadd, 1) := by decide +kernel
theorem d10_takeRows_312 : decode c10_takeRows 312 = .ok (.aload_n 0, 1) := by decide +kernel
theorem d10_takeRows_313 : decode c10_takeRows 313 = .ok (.getfield 57, 3) := by decide +kernel
theorem d10_takeRows_316 : decode c10_takeRows 316 = .ok (.iload_n 2, 1) := by decide +kernel
theorem d10_takeRows_317 : decode c10_takeRows 317 = .ok (.iaload, 1) := by decide +kernel
theorem d10_takeRows_318 : decode c10_takeRows 318 = .ok (.iastore, 1) := by decide +kernel
theorem d10_takeRows_319 : decode c10_takeRows 319 = .ok (.iconst 4, 1) := by decide +kernel
theorem d10_takeRows_320 : decode c10_takeRows 320 = .ok (.iload_n 2, 1) := by decide +kernel
theorem d10_takeRows_321 : decode c10_takeRows 321 = .ok (.imul, 1) := by decide +kernel
theorem d10_takeRows_322 : decode c10_takeRows 322 = .ok (.iload_n 3, 1) := by decide +kernel
theorem d10_takeRows_323 : decode c10_takeRows 323 = .ok (.iadd, 1) := by decide +kernel
theorem d10_takeRows_324 : decode c10_takeRows 324 = .ok (.istore 5, 2) := by decide +kernel
theorem d10_takeRows_326 : decode c10_takeRows 326 = .ok (.aload_n 0, 1) := by decide +kernel
theorem d10_takeRows_327 : decode c10_takeRows 327 = .ok (.getfield 69, 3) := by decide +kernel
theorem d10_takeRows_330 : decode c10_takeRows 330 = .ok (.iload 5, 2) := by decide +kernel
theorem d10_takeRows_332 : decode c10_takeRows 332 = .ok (.iaload, 1) := by decide +kernel
theorem d10_takeRows_333 : decode c10_takeRows 333 = .ok (.istore_n 2, 1) := by decide +kernel
theorem d10_takeRows_334 : decode c10_takeRows 334 = .ok (.aload_n 0, 1) := by decide +kernel
theorem d10_takeRows_335 : decode c10_takeRows 335 = .ok (.getfield 72, 3) := by decide +kernel
theorem d10_takeRows_338 : decode c10_takeRows 338 = .ok (.iload 5, 2) := by decide +kernel
theorem d10_takeRows_340 : decode c10_takeRows 340 = .ok (.iaload, 1) := by decide +kernel
theorem d10_takeRows_341 : decode c10_takeRows 341 = .ok (.istore_n 3, 1) := by decide +kernel
theorem d10_takeRows_342 : decode c10_takeRows 342 = .ok (.iinc 4 1, 3) := by decide +kernel
theorem d10_takeRows_345 : decode c10_takeRows 345 = .ok (.goto (-96), 3) := by decide +kernel
theorem d10_takeRows_348 : decode c10_takeRows 348 = .ok (.iinc 1 1, 3) := by decide +kernel
theorem d10_takeRows_351 : decode c10_takeRows 351 = .ok (.goto (-127), 3) := by decide +kernel
theorem d10_takeRows_354 : decode c10_takeRows 354 = .ok (.return_, 1) := by decide +kernel
def t10_takeRows (l : Launch) (Po : ri_O) : List ri_S := [i_al 1 0,
  i_con 2 0,
  i_put 3 10 26 ri_isI,
  i_con 4 0,
  i_is 5 1,
  i_il 6 1,
  i_al 7 0,
  i_get 8 10 19,
  i_con 9 0,
  i_ald 10 0,
  i_icmp 11 126 (fun x y => y ≤ x),
  i_con 12 0,
  i_is 13 2,
  i_al 14 0,
  i_get 15 10 24,
  i_il 16 1,
  i_ald 17 1,
  i_if 18 124 (fun x => x = 0),
  i_il 19 2,
  i_al 20 0,
  i_get 21 10 23,
  i_il 22 1,
  i_ald 23 0,
  i_icmp 24 124 (fun x y => y ≤ x),
  i_al 25 0,
  i_get 26 10 20,
  i_con 27 4,
  i_il 28 1,
  i_bin 29 (fun x y => x * y),
  i_il 30 2,
  i_bin 31 (fun x y => x + y),
  i_ald 32 0,
  i_is 33 3,
  i_al 34 0,
  i_get 35 10 26,
  i_is 36 4,
  i_il 37 4,
  i_if 38 48 (fun x => x ≤ 0),
  i_al 39 0,
  i_get 40 10 29,
  i_il 41 4,
  i_con 42 1,
  i_bin 43 (fun x y => x - y),
  i_ald 44 0,
  i_il 45 3,
  i_icmp 46 48 (fun x y => x ≤ y),
  i_inc 47 4 (-1),
  i_goto 36,
  i_il 49 4,
  i_con 50 4,
  i_icmp 51 122 (fun x y => y ≤ x),
  i_al 52 0,
  i_get 53 10 26,
  i_con 54 4,
  i_icmp 55 58 (fun x y => y ≤ x),
  i_al 56 0,
  i_get 57 10 26,
  i_goto 59,
  i_con 59 3,
  i_is 60 5,
  i_il 61 5,
  i_il 62 4,
  i_icmp 63 95 (fun x y => x ≤ y),
  i_al 64 0,
  i_get 65 10 29,
  i_il 66 5,
  i_al 67 0,
  i_get 68 10 29,
  i_il 69 5,
  i_con 70 1,
  i_bin 71 (fun x y => x - y),
  i_ald 72 0,
  i_ast 73 0 (fun x => x),
  i_al 74 0,
  i_get 75 10 33,
  i_il 76 5,
  i_al 77 0,
  i_get 78 10 33,
  i_il 79 5,
  i_con 80 1,
  i_bin 81 (fun x y => x - y),
  i_ald 82 0,
  i_ast 83 0 (fun x => x),
  i_al 84 0,
  i_get 85 10 34,
  i_il 86 5,
  i_al 87 0,
  i_get 88 10 34,
  i_il 89 5,
  i_con 90 1,
  i_bin 91 (fun x y => x - y),
  i_ald 92 0,
  i_ast 93 0 (fun x => x),
  i_inc 94 5 (-1),
  i_goto 60,
  i_al 96 0,
  i_get 97 10 29,
  i_il 98 4,
  i_il 99 3,
  i_ast 100 0 (fun x => x),
  i_al 101 0,
  i_get 102 10 33,
  i_il 103 4,
  i_il 104 1,
  i_ast 105 0 (fun x => x),
  i_al 106 0,
  i_get 107 10 34,
  i_il 108 4,
  i_il 109 2,
  i_ast 110 0 (fun x => x),
  i_al 111 0,
  i_al 112 0,
  i_get 113 10 26,
  i_con 114 4,
  i_icmp 115 120 (fun x y => y ≤ x),
  i_al 116 0,
  i_get 117 10 26,
  i_con 118 1,
  i_bin 119 (fun x y => x + y),
  i_goto 121,
  i_con 121 4,
  i_put 122 10 26 ri_isI,
  i_inc 123 2 1,
  i_goto 13,
  i_inc 125 1 1,
  i_goto 5,
  i_con 127 0,
  i_is 128 1,
  i_il 129 1,
  i_al 130 0,
  i_get 131 10 26,
  i_icmp 132 207 (fun x y => y ≤ x),
  i_al 133 0,
  i_get 134 10 33,
  i_il 135 1,
  i_ald 136 0,
  i_is 137 2,
  i_al 138 0,
  i_get 139 10 34,
  i_il 140 1,
  i_ald 141 0,
  i_is 142 3,
  i_con 143 0,
  i_is 144 4,
  i_il 145 4,
  i_al 146 0,
  i_get 147 10 7,
  i_icmp 148 205 (fun x y => y ≤ x),
  i_con 149 0,
  i_is 150 5,
  i_il 151 5,
  i_con 152 4,
  i_icmp 153 175 (fun x y => y ≤ x),
  i_al 154 0,
  i_get 155 10 27,
  i_con 156 64,
  i_il 157 1,
  i_bin 158 (fun x y => x * y),
  i_con 159 4,
  i_il 160 4,
  i_bin 161 (fun x y => x * y),
  i_bin 162 (fun x y => x + y),
  i_il 163 5,
  i_bin 164 (fun x y => x + y),
  i_al 165 0,
  i_get 166 10 16,
  i_con 167 4,
  i_il 168 2,
  i_bin 169 (fun x y => x * y),
  i_il 170 5,
  i_bin 171 (fun x y => x + y),
  i_ald 172 0,
  i_ast 173 0 (fun x => x),
  i_inc 174 5 1,
  i_goto 150,
  i_al 176 0,
  i_get 177 10 28,
  i_con 178 16,
  i_il 179 1,
  i_bin 180 (fun x y => x * y),
  i_il 181 4,
  i_bin 182 (fun x y => x + y),
  i_al 183 0,
  i_get 184 10 17,
  i_il 185 2,
  i_ald 186 0,
  i_ast 187 0 (fun x => x),
  i_con 188 4,
  i_il 189 2,
  i_bin 190 (fun x y => x * y),
  i_il 191 3,
  i_bin 192 (fun x y => x + y),
  i_is 193 5,
  i_al 194 0,
  i_get 195 10 21,
  i_il 196 5,
  i_ald 197 0,
  i_is 198 2,
  i_al 199 0,
  i_get 200 10 22,
  i_il 201 5,
  i_ald 202 0,
  i_is 203 3,
  i_inc 204 4 1,
  i_goto 144,
  i_inc 206 1 1,
  i_goto 128,
  i_vret Po 0 0]
set_option maxRecDepth 20000 in
set_option maxHeartbeats 4000000 in
theorem z10_takeRows (l : Launch) (Po : ri_O) (p : Program) (e : Env) (s : State) (m : MethodId) (args : Array Value) (below : List Frame) (meth : Method) (c : Code) (D : va_G) (ka : Nat → ClassId) (sa : Nat → Nat) (base : Nat) (X : ri_X p s m args c c10_takeRows 6 w10_takeRows "ChoraleSearchModel" D ka sa base) (hret : meth.sig.returnType = none) (hlocks : meth.locks = false) (hname : meth.name = "takeRows") : ri_clo (ri_W p l e r10_takeRows s m args below meth c D ka sa base 6 (MQ below (ri_Qc D ka sa base Po) args s 0 0 (fun q => base ≤ q)) p10_takeRows) (t10_takeRows l Po) := by
  refine ri_clo_of ?_
  unfold t10_takeRows
  exact ⟨s_aload_n X d10_takeRows_0 rfl rfl,
    s_iconst X d10_takeRows_1 rfl rfl,
    s_put X (ci := 10) (f := 26) rfl (fun w h => List.mem_cons_of_mem _ (uC_10 w h)) (by decide) tC_10 oC_10 nC_10 rfl ri_ok_int (List.mem_cons_of_mem _ mgw_840) d10_takeRows_2 rfl,
    s_iconst X d10_takeRows_5 rfl rfl,
    s_istore_n X d10_takeRows_6 rfl (by decide) rfl,
    s_iload_n X d10_takeRows_7 rfl rfl,
    s_aload_n X d10_takeRows_8 rfl rfl,
    s_get X (ci := 10) (f := 19) rfl (fun w h => List.mem_cons_of_mem _ (uC_10 w h)) (by decide) (List.mem_cons_of_mem _ mgw_833) d10_takeRows_9 rfl,
    s_iconst X d10_takeRows_12 rfl rfl,
    s_iald X rfl d10_takeRows_13 rfl,
    s_icmp_ge X d10_takeRows_14 rfl rfl,
    s_iconst X d10_takeRows_17 rfl rfl,
    s_istore_n X d10_takeRows_18 rfl (by decide) rfl,
    s_aload_n X d10_takeRows_19 rfl rfl,
    s_get X (ci := 10) (f := 24) rfl (fun w h => List.mem_cons_of_mem _ (uC_10 w h)) (by decide) (List.mem_cons_of_mem _ mgw_838) d10_takeRows_20 rfl,
    s_iload_n X d10_takeRows_23 rfl rfl,
    s_zald X rfl d10_takeRows_24 rfl,
    s_if_eq X d10_takeRows_25 rfl rfl,
    s_iload_n X d10_takeRows_28 rfl rfl,
    s_aload_n X d10_takeRows_29 rfl rfl,
    s_get X (ci := 10) (f := 23) rfl (fun w h => List.mem_cons_of_mem _ (uC_10 w h)) (by decide) (List.mem_cons_of_mem _ mgw_837) d10_takeRows_30 rfl,
    s_iload_n X d10_takeRows_33 rfl rfl,
    s_iald X rfl d10_takeRows_34 rfl,
    s_icmp_ge X d10_takeRows_35 rfl rfl,
    s_aload_n X d10_takeRows_38 rfl rfl,
    s_get X (ci := 10) (f := 20) rfl (fun w h => List.mem_cons_of_mem _ (uC_10 w h)) (by decide) (List.mem_cons_of_mem _ mgw_834) d10_takeRows_39 rfl,
    s_iconst X d10_takeRows_42 rfl rfl,
    s_iload_n X d10_takeRows_43 rfl rfl,
    s_imul X d10_takeRows_44 rfl,
    s_iload_n X d10_takeRows_45 rfl rfl,
    s_iadd X d10_takeRows_46 rfl,
    s_iald X rfl d10_takeRows_47 rfl,
    s_istore_n X d10_takeRows_48 rfl (by decide) rfl,
    s_aload_n X d10_takeRows_49 rfl rfl,
    s_get X (ci := 10) (f := 26) rfl (fun w h => List.mem_cons_of_mem _ (uC_10 w h)) (by decide) (List.mem_cons_of_mem _ mgw_840) d10_takeRows_50 rfl,
    s_istore X d10_takeRows_53 (by decide) rfl,
    s_iload X d10_takeRows_55 rfl,
    s_if_le X d10_takeRows_57 rfl rfl,
    s_aload_n X d10_takeRows_60 rfl rfl,
    s_get X (ci := 10) (f := 29) rfl (fun w h => List.mem_cons_of_mem _ (uC_10 w h)) (by decide) (List.mem_cons_of_mem _ mgw_843) d10_takeRows_61 rfl,
    s_iload X d10_takeRows_64 rfl,
    s_iconst X d10_takeRows_66 rfl rfl,
    s_isub X d10_takeRows_67 rfl,
    s_iald X rfl d10_takeRows_68 rfl,
    s_iload_n X d10_takeRows_69 rfl rfl,
    s_icmp_le X d10_takeRows_70 rfl rfl,
    s_iinc X d10_takeRows_73 rfl (by decide) rfl,
    s_goto X d10_takeRows_76 rfl,
    s_iload X d10_takeRows_79 rfl,
    s_iconst X d10_takeRows_81 rfl rfl,
    s_icmp_ge X d10_takeRows_82 rfl rfl,
    s_aload_n X d10_takeRows_85 rfl rfl,
    s_get X (ci := 10) (f := 26) rfl (fun w h => List.mem_cons_of_mem _ (uC_10 w h)) (by decide) (List.mem_cons_of_mem _ mgw_840) d10_takeRows_86 rfl,
    s_iconst X d10_takeRows_89 rfl rfl,
    s_icmp_ge X d10_takeRows_90 rfl rfl,
    s_aload_n X d10_takeRows_93 rfl rfl,
    s_get X (ci := 10) (f := 26) rfl (fun w h => List.mem_cons_of_mem _ (uC_10 w h)) (by decide) (List.mem_cons_of_mem _ mgw_840) d10_takeRows_94 rfl,
    s_goto X d10_takeRows_97 rfl,
    s_iconst X d10_takeRows_100 rfl rfl,
    s_istore X d10_takeRows_101 (by decide) rfl,
    s_iload X d10_takeRows_103 rfl,
    s_iload X d10_takeRows_105 rfl,
    s_icmp_le X d10_takeRows_107 rfl rfl,
    s_aload_n X d10_takeRows_110 rfl rfl,
    s_get X (ci := 10) (f := 29) rfl (fun w h => List.mem_cons_of_mem _ (uC_10 w h)) (by decide) (List.mem_cons_of_mem _ mgw_843) d10_takeRows_111 rfl,
    s_iload X d10_takeRows_114 rfl,
    s_aload_n X d10_takeRows_116 rfl rfl,
    s_get X (ci := 10) (f := 29) rfl (fun w h => List.mem_cons_of_mem _ (uC_10 w h)) (by decide) (List.mem_cons_of_mem _ mgw_843) d10_takeRows_117 rfl,
    s_iload X d10_takeRows_120 rfl,
    s_iconst X d10_takeRows_122 rfl rfl,
    s_isub X d10_takeRows_123 rfl,
    s_iald X rfl d10_takeRows_124 rfl,
    s_iast X rfl d10_takeRows_125 rfl,
    s_aload_n X d10_takeRows_126 rfl rfl,
    s_get X (ci := 10) (f := 33) rfl (fun w h => List.mem_cons_of_mem _ (uC_10 w h)) (by decide) (List.mem_cons_of_mem _ mgw_847) d10_takeRows_127 rfl,
    s_iload X d10_takeRows_130 rfl,
    s_aload_n X d10_takeRows_132 rfl rfl,
    s_get X (ci := 10) (f := 33) rfl (fun w h => List.mem_cons_of_mem _ (uC_10 w h)) (by decide) (List.mem_cons_of_mem _ mgw_847) d10_takeRows_133 rfl,
    s_iload X d10_takeRows_136 rfl,
    s_iconst X d10_takeRows_138 rfl rfl,
    s_isub X d10_takeRows_139 rfl,
    s_iald X rfl d10_takeRows_140 rfl,
    s_iast X rfl d10_takeRows_141 rfl,
    s_aload_n X d10_takeRows_142 rfl rfl,
    s_get X (ci := 10) (f := 34) rfl (fun w h => List.mem_cons_of_mem _ (uC_10 w h)) (by decide) (List.mem_cons_of_mem _ mgw_848) d10_takeRows_143 rfl,
    s_iload X d10_takeRows_146 rfl,
    s_aload_n X d10_takeRows_148 rfl rfl,
    s_get X (ci := 10) (f := 34) rfl (fun w h => List.mem_cons_of_mem _ (uC_10 w h)) (by decide) (List.mem_cons_of_mem _ mgw_848) d10_takeRows_149 rfl,
    s_iload X d10_takeRows_152 rfl,
    s_iconst X d10_takeRows_154 rfl rfl,
    s_isub X d10_takeRows_155 rfl,
    s_iald X rfl d10_takeRows_156 rfl,
    s_iast X rfl d10_takeRows_157 rfl,
    s_iinc X d10_takeRows_158 rfl (by decide) rfl,
    s_goto X d10_takeRows_161 rfl,
    s_aload_n X d10_takeRows_164 rfl rfl,
    s_get X (ci := 10) (f := 29) rfl (fun w h => List.mem_cons_of_mem _ (uC_10 w h)) (by decide) (List.mem_cons_of_mem _ mgw_843) d10_takeRows_165 rfl,
    s_iload X d10_takeRows_168 rfl,
    s_iload_n X d10_takeRows_170 rfl rfl,
    s_iast X rfl d10_takeRows_171 rfl,
    s_aload_n X d10_takeRows_172 rfl rfl,
    s_get X (ci := 10) (f := 33) rfl (fun w h => List.mem_cons_of_mem _ (uC_10 w h)) (by decide) (List.mem_cons_of_mem _ mgw_847) d10_takeRows_173 rfl,
    s_iload X d10_takeRows_176 rfl,
    s_iload_n X d10_takeRows_178 rfl rfl,
    s_iast X rfl d10_takeRows_179 rfl,
    s_aload_n X d10_takeRows_180 rfl rfl,
    s_get X (ci := 10) (f := 34) rfl (fun w h => List.mem_cons_of_mem _ (uC_10 w h)) (by decide) (List.mem_cons_of_mem _ mgw_848) d10_takeRows_181 rfl,
    s_iload X d10_takeRows_184 rfl,
    s_iload_n X d10_takeRows_186 rfl rfl,
    s_iast X rfl d10_takeRows_187 rfl,
    s_aload_n X d10_takeRows_188 rfl rfl,
    s_aload_n X d10_takeRows_189 rfl rfl,
    s_get X (ci := 10) (f := 26) rfl (fun w h => List.mem_cons_of_mem _ (uC_10 w h)) (by decide) (List.mem_cons_of_mem _ mgw_840) d10_takeRows_190 rfl,
    s_iconst X d10_takeRows_193 rfl rfl,
    s_icmp_ge X d10_takeRows_194 rfl rfl,
    s_aload_n X d10_takeRows_197 rfl rfl,
    s_get X (ci := 10) (f := 26) rfl (fun w h => List.mem_cons_of_mem _ (uC_10 w h)) (by decide) (List.mem_cons_of_mem _ mgw_840) d10_takeRows_198 rfl,
    s_iconst X d10_takeRows_201 rfl rfl,
    s_iadd X d10_takeRows_202 rfl,
    s_goto X d10_takeRows_203 rfl,
    s_iconst X d10_takeRows_206 rfl rfl,
    s_put X (ci := 10) (f := 26) rfl (fun w h => List.mem_cons_of_mem _ (uC_10 w h)) (by decide) tC_10 oC_10 nC_10 rfl ri_ok_int (List.mem_cons_of_mem _ mgw_840) d10_takeRows_207 rfl,
    s_iinc X d10_takeRows_210 rfl (by decide) rfl,
    s_goto X d10_takeRows_213 rfl,
    s_iinc X d10_takeRows_216 rfl (by decide) rfl,
    s_goto X d10_takeRows_219 rfl,
    s_iconst X d10_takeRows_222 rfl rfl,
    s_istore_n X d10_takeRows_223 rfl (by decide) rfl,
    s_iload_n X d10_takeRows_224 rfl rfl,
    s_aload_n X d10_takeRows_225 rfl rfl,
    s_get X (ci := 10) (f := 26) rfl (fun w h => List.mem_cons_of_mem _ (uC_10 w h)) (by decide) (List.mem_cons_of_mem _ mgw_840) d10_takeRows_226 rfl,
    s_icmp_ge X d10_takeRows_229 rfl rfl,
    s_aload_n X d10_takeRows_232 rfl rfl,
    s_get X (ci := 10) (f := 33) rfl (fun w h => List.mem_cons_of_mem _ (uC_10 w h)) (by decide) (List.mem_cons_of_mem _ mgw_847) d10_takeRows_233 rfl,
    s_iload_n X d10_takeRows_236 rfl rfl,
    s_iald X rfl d10_takeRows_237 rfl,
    s_istore_n X d10_takeRows_238 rfl (by decide) rfl,
    s_aload_n X d10_takeRows_239 rfl rfl,
    s_get X (ci := 10) (f := 34) rfl (fun w h => List.mem_cons_of_mem _ (uC_10 w h)) (by decide) (List.mem_cons_of_mem _ mgw_848) d10_takeRows_240 rfl,
    s_iload_n X d10_takeRows_243 rfl rfl,
    s_iald X rfl d10_takeRows_244 rfl,
    s_istore_n X d10_takeRows_245 rfl (by decide) rfl,
    s_iconst X d10_takeRows_246 rfl rfl,
    s_istore X d10_takeRows_247 (by decide) rfl,
    s_iload X d10_takeRows_249 rfl,
    s_aload_n X d10_takeRows_251 rfl rfl,
    s_get X (ci := 10) (f := 7) rfl (fun w h => List.mem_cons_of_mem _ (uC_10 w h)) (by decide) (List.mem_cons_of_mem _ mgw_821) d10_takeRows_252 rfl,
    s_icmp_ge X d10_takeRows_255 rfl rfl,
    s_iconst X d10_takeRows_258 rfl rfl,
    s_istore X d10_takeRows_259 (by decide) rfl,
    s_iload X d10_takeRows_261 rfl,
    s_iconst X d10_takeRows_263 rfl rfl,
    s_icmp_ge X d10_takeRows_264 rfl rfl,
    s_aload_n X d10_takeRows_267 rfl rfl,
    s_get X (ci := 10) (f := 27) rfl (fun w h => List.mem_cons_of_mem _ (uC_10 w h)) (by decide) (List.mem_cons_of_mem _ mgw_841) d10_takeRows_268 rfl,
    s_bipush X d10_takeRows_271 rfl rfl,
    s_iload_n X d10_takeRows_273 rfl rfl,
    s_imul X d10_takeRows_274 rfl,
    s_iconst X d10_takeRows_275 rfl rfl,
    s_iload X d10_takeRows_276 rfl,
    s_imul X d10_takeRows_278 rfl,
    s_iadd X d10_takeRows_279 rfl,
    s_iload X d10_takeRows_280 rfl,
    s_iadd X d10_takeRows_282 rfl,
    s_aload_n X d10_takeRows_283 rfl rfl,
    s_get X (ci := 10) (f := 16) rfl (fun w h => List.mem_cons_of_mem _ (uC_10 w h)) (by decide) (List.mem_cons_of_mem _ mgw_830) d10_takeRows_284 rfl,
    s_iconst X d10_takeRows_287 rfl rfl,
    s_iload_n X d10_takeRows_288 rfl rfl,
    s_imul X d10_takeRows_289 rfl,
    s_iload X d10_takeRows_290 rfl,
    s_iadd X d10_takeRows_292 rfl,
    s_iald X rfl d10_takeRows_293 rfl,
    s_iast X rfl d10_takeRows_294 rfl,
    s_iinc X d10_takeRows_295 rfl (by decide) rfl,
    s_goto X d10_takeRows_298 rfl,
    s_aload_n X d10_takeRows_301 rfl rfl,
    s_get X (ci := 10) (f := 28) rfl (fun w h => List.mem_cons_of_mem _ (uC_10 w h)) (by decide) (List.mem_cons_of_mem _ mgw_842) d10_takeRows_302 rfl,
    s_bipush X d10_takeRows_305 rfl rfl,
    s_iload_n X d10_takeRows_307 rfl rfl,
    s_imul X d10_takeRows_308 rfl,
    s_iload X d10_takeRows_309 rfl,
    s_iadd X d10_takeRows_311 rfl,
    s_aload_n X d10_takeRows_312 rfl rfl,
    s_get X (ci := 10) (f := 17) rfl (fun w h => List.mem_cons_of_mem _ (uC_10 w h)) (by decide) (List.mem_cons_of_mem _ mgw_831) d10_takeRows_313 rfl,
    s_iload_n X d10_takeRows_316 rfl rfl,
    s_iald X rfl d10_takeRows_317 rfl,
    s_iast X rfl d10_takeRows_318 rfl,
    s_iconst X d10_takeRows_319 rfl rfl,
    s_iload_n X d10_takeRows_320 rfl rfl,
    s_imul X d10_takeRows_321 rfl,
    s_iload_n X d10_takeRows_322 rfl rfl,
    s_iadd X d10_takeRows_323 rfl,
    s_istore X d10_takeRows_324 (by decide) rfl,
    s_aload_n X d10_takeRows_326 rfl rfl,
    s_get X (ci := 10) (f := 21) rfl (fun w h => List.mem_cons_of_mem _ (uC_10 w h)) (by decide) (List.mem_cons_of_mem _ mgw_835) d10_takeRows_327 rfl,
    s_iload X d10_takeRows_330 rfl,
    s_iald X rfl d10_takeRows_332 rfl,
    s_istore_n X d10_takeRows_333 rfl (by decide) rfl,
    s_aload_n X d10_takeRows_334 rfl rfl,
    s_get X (ci := 10) (f := 22) rfl (fun w h => List.mem_cons_of_mem _ (uC_10 w h)) (by decide) (List.mem_cons_of_mem _ mgw_836) d10_takeRows_335 rfl,
    s_iload X d10_takeRows_338 rfl,
    s_iald X rfl d10_takeRows_340 rfl,
    s_istore_n X d10_takeRows_341 rfl (by decide) rfl,
    s_iinc X d10_takeRows_342 rfl (by decide) rfl,
    s_goto X d10_takeRows_345 rfl,
    s_iinc X d10_takeRows_348 rfl (by decide) rfl,
    s_goto X d10_takeRows_351 rfl,
    s_vret X hret hlocks d10_takeRows_354, trivial⟩
theorem d10_note_0 : decode c10_note 0 = .ok (.aload_n 0, 1) := by decide +kernel
theorem d10_note_1 : decode c10_note 1 = .ok (.iconst 0, 1) := by decide +kernel
theorem d10_note_2 : decode c10_note 2 = .ok (.putfield 1, 3) := by decide +kernel
theorem d10_note_5 : decode c10_note 5 = .ok (.aload_n 0, 1) := by decide +kernel
theorem d10_note_6 : decode c10_note 6 = .ok (.iload_n 1, 1) := by decide +kernel
theorem d10_note_7 : decode c10_note 7 = .ok (.invokevirtual 223, 3) := by decide +kernel
theorem d10_note_10 : decode c10_note 10 = .ok (.ifCond .ne 23, 3) := by decide +kernel
theorem d10_note_13 : decode c10_note 13 = .ok (.iload_n 2, 1) := by decide +kernel
theorem d10_note_14 : decode c10_note 14 = .ok (.i2l, 1) := by decide +kernel
theorem d10_note_15 : decode c10_note 15 = .ok (.lconst 0, 1) := by decide +kernel
theorem d10_note_16 : decode c10_note 16 = .ok (.ldc2_w 128, 3) := by decide +kernel
theorem d10_note_19 : decode c10_note 19 = .ok (.invokestatic 119, 3) := by decide +kernel
theorem d10_note_22 : decode c10_note 22 = .ok (.ifCond .eq 11, 3) := by decide +kernel
theorem d10_note_25 : decode c10_note 25 = .ok (.aload_n 0, 1) := by decide +kernel
theorem d10_note_26 : decode c10_note 26 = .ok (.iload_n 3, 1) := by decide +kernel
theorem d10_note_27 : decode c10_note 27 = .ok (.invokevirtual 130, 3) := by decide +kernel
theorem d10_note_30 : decode c10_note 30 = .ok (.ifCond .eq 7, 3) := by decide +kernel
theorem d10_note_33 : decode c10_note 33 = .ok (.iconst (-1), 1) := by decide +kernel
theorem d10_note_34 : decode c10_note 34 = .ok (.goto 18, 3) := by decide +kernel
theorem d10_note_37 : decode c10_note 37 = .ok (.aload_n 0, 1) := by decide +kernel
theorem d10_note_38 : decode c10_note 38 = .ok (.getfield 84, 3) := by decide +kernel
theorem d10_note_41 : decode c10_note 41 = .ok (.bipush 64, 2) := by decide +kernel
theorem d10_note_43 : decode c10_note 43 = .ok (.iload_n 1, 1) := by decide +kernel
theorem d10_note_44 : decode c10_note 44 = .ok (.imul, 1) := by decide +kernel
theorem d10_note_45 : decode c10_note 45 = .ok (.iconst 4, 1) := by decide +kernel
theorem d10_note_46 : decode c10_note 46 = .ok (.iload_n 3, 1) := by decide +kernel
theorem d10_note_47 : decode c10_note 47 = .ok (.imul, 1) := by decide +kernel
theorem d10_note_48 : decode c10_note 48 = .ok (.iadd, 1) := by decide +kernel
theorem d10_note_49 : decode c10_note 49 = .ok (.iload_n 2, 1) := by decide +kernel
theorem d10_note_50 : decode c10_note 50 = .ok (.iadd, 1) := by decide +kernel
theorem d10_note_51 : decode c10_note 51 = .ok (.iaload, 1) := by decide +kernel
theorem d10_note_52 : decode c10_note 52 = .ok (.ireturn, 1) := by decide +kernel
def t10_note (l : Launch) (Po : ri_O) : List ri_S := [i_al 1 0,
  i_con 2 0,
  i_put 3 10 0 ri_isI,
  i_al 4 0,
  i_il 5 1,
  i_callV 6 2 10 (ri_Ev l y10_noRow w10_noRow r10_noRow 0 0) 0 0 0 0,
  i_if 7 17 (fun x => ¬ x = 0),
  i_il 8 2,
  i_i2l 9,
  i_lcon 10 0,
  i_lcon 11 3,
  i_call 12 3 (ri_Ev l y10_in w10_in r10_in 0 0) 0 0 0 0,
  i_if 13 17 (fun x => x = 0),
  i_al 14 0,
  i_il 15 3,
  i_callV 16 2 10 (ri_Ev l y10_noPlace w10_noPlace r10_noPlace 0 0) 0 0 0 0,
  i_if 17 19 (fun x => x = 0),
  i_con 18 (-1),
  i_goto 31,
  i_al 20 0,
  i_get 21 10 27,
  i_con 22 64,
  i_il 23 1,
  i_bin 24 (fun x y => x * y),
  i_con 25 4,
  i_il 26 3,
  i_bin 27 (fun x y => x * y),
  i_bin 28 (fun x y => x + y),
  i_il 29 2,
  i_bin 30 (fun x y => x + y),
  i_ald 31 0,
  i_ret Po 0 0]
set_option maxRecDepth 20000 in
set_option maxHeartbeats 4000000 in
theorem z10_note (l : Launch) (Po : ri_O) (p : Program) (e : Env) (s : State) (m : MethodId) (args : Array Value) (below : List Frame) (meth : Method) (c : Code) (D : va_G) (ka : Nat → ClassId) (sa : Nat → Nat) (base : Nat) (X : ri_X p s m args c c10_note 4 w10_note "ChoraleSearchModel" D ka sa base) (hret : meth.sig.returnType = (some .int)) (hlocks : meth.locks = false) (hname : meth.name = "note") : ri_clo (ri_W p l e r10_note s m args below meth c D ka sa base 4 (MQ below (ri_Qc D ka sa base Po) args s 0 0 (fun q => base ≤ q)) p10_note) (t10_note l Po) := by
  refine ri_clo_of ?_
  unfold t10_note
  exact ⟨s_aload_n X d10_note_0 rfl rfl,
    s_iconst X d10_note_1 rfl rfl,
    s_put X (ci := 10) (f := 0) rfl (fun w h => List.mem_cons_of_mem _ (uC_10 w h)) (by decide) tC_10 oC_10 nC_10 rfl ri_ok_int (List.mem_cons_of_mem _ mgw_814) d10_note_2 rfl,
    s_aload_n X d10_note_5 rfl rfl,
    s_iload_n X d10_note_6 rfl rfl,
    s_callV ri_NW_ok X (na := 1) (ci := 10) rfl ⟨ri_cB X 1 mgw_1081 (List.mem_cons_of_mem _ mgw_12) (List.mem_cons_of_mem _ mgw_1078) (by decide +kernel) rfl rfl ⟨by decide, by decide⟩, X.2.2.2.2.1 _ (List.mem_cons_of_mem _ mgw_1080), X.2.2.2.2.1 _ (List.mem_cons_of_mem _ mgp_95)⟩ d10_note_7 rfl,
    s_if_ne X d10_note_10 rfl rfl,
    s_iload_n X d10_note_13 rfl rfl,
    s_i2l X d10_note_14 rfl,
    s_lconst X d10_note_15 rfl rfl,
    s_ldc2 X d10_note_16 (List.mem_cons_of_mem _ mgw_940) rfl,
    s_callS ri_NW_ok X ⟨ri_cB X 3 mgw_930 (List.mem_cons_of_mem _ mgw_12) (List.mem_cons_of_mem _ mgw_928) (by decide +kernel) rfl rfl ⟨by decide, by decide⟩, X.2.2.2.2.1 _ (List.mem_cons_of_mem _ mgw_929)⟩ d10_note_19 rfl,
    s_if_eq X d10_note_22 rfl rfl,
    s_aload_n X d10_note_25 rfl rfl,
    s_iload_n X d10_note_26 rfl rfl,
    s_callV ri_NW_ok X (na := 1) (ci := 10) rfl ⟨ri_cB X 1 mgw_944 (List.mem_cons_of_mem _ mgw_12) (List.mem_cons_of_mem _ mgw_941) (by decide +kernel) rfl rfl ⟨by decide, by decide⟩, X.2.2.2.2.1 _ (List.mem_cons_of_mem _ mgw_943), X.2.2.2.2.1 _ (List.mem_cons_of_mem _ mgp_77)⟩ d10_note_27 rfl,
    s_if_eq X d10_note_30 rfl rfl,
    s_iconst X d10_note_33 rfl rfl,
    s_goto X d10_note_34 rfl,
    s_aload_n X d10_note_37 rfl rfl,
    s_get X (ci := 10) (f := 27) rfl (fun w h => List.mem_cons_of_mem _ (uC_10 w h)) (by decide) (List.mem_cons_of_mem _ mgw_841) d10_note_38 rfl,
    s_bipush X d10_note_41 rfl rfl,
    s_iload_n X d10_note_43 rfl rfl,
    s_imul X d10_note_44 rfl,
    s_iconst X d10_note_45 rfl rfl,
    s_iload_n X d10_note_46 rfl rfl,
    s_imul X d10_note_47 rfl,
    s_iadd X d10_note_48 rfl,
    s_iload_n X d10_note_49 rfl rfl,
    s_iadd X d10_note_50 rfl,
    s_iald X rfl d10_note_51 rfl,
    s_iret X hret hlocks d10_note_52, trivial⟩
theorem d10_noRow_0 : decode c10_noRow 0 = .ok (.iload_n 1, 1) := by decide +kernel
theorem d10_noRow_1 : decode c10_noRow 1 = .ok (.i2l, 1) := by decide +kernel
theorem d10_noRow_2 : decode c10_noRow 2 = .ok (.lconst 0, 1) := by decide +kernel
theorem d10_noRow_3 : decode c10_noRow 3 = .ok (.aload_n 0, 1) := by decide +kernel
theorem d10_noRow_4 : decode c10_noRow 4 = .ok (.getfield 123, 3) := by decide +kernel
theorem d10_noRow_7 : decode c10_noRow 7 = .ok (.iconst 1, 1) := by decide +kernel
theorem d10_noRow_8 : decode c10_noRow 8 = .ok (.isub, 1) := by decide +kernel
theorem d10_noRow_9 : decode c10_noRow 9 = .ok (.i2l, 1) := by decide +kernel
theorem d10_noRow_10 : decode c10_noRow 10 = .ok (.invokestatic 119, 3) := by decide +kernel
theorem d10_noRow_13 : decode c10_noRow 13 = .ok (.ifCond .ne 7, 3) := by decide +kernel
theorem d10_noRow_16 : decode c10_noRow 16 = .ok (.iconst 1, 1) := by decide +kernel
theorem d10_noRow_17 : decode c10_noRow 17 = .ok (.goto 4, 3) := by decide +kernel
theorem d10_noRow_20 : decode c10_noRow 20 = .ok (.iconst 0, 1) := by decide +kernel
theorem d10_noRow_21 : decode c10_noRow 21 = .ok (.ireturn, 1) := by decide +kernel
def t10_noRow (l : Launch) (Po : ri_O) : List ri_S := [i_il 1 1,
  i_i2l 2,
  i_lcon 3 0,
  i_al 4 0,
  i_get 5 10 26,
  i_con 6 1,
  i_bin 7 (fun x y => x - y),
  i_i2l 8,
  i_call 9 3 (ri_Ev l y10_in w10_in r10_in 0 0) 0 0 0 0,
  i_if 10 12 (fun x => ¬ x = 0),
  i_con 11 1,
  i_goto 13,
  i_con 13 0,
  i_zret Po 0 0]
set_option maxRecDepth 20000 in
set_option maxHeartbeats 4000000 in
theorem z10_noRow (l : Launch) (Po : ri_O) (p : Program) (e : Env) (s : State) (m : MethodId) (args : Array Value) (below : List Frame) (meth : Method) (c : Code) (D : va_G) (ka : Nat → ClassId) (sa : Nat → Nat) (base : Nat) (X : ri_X p s m args c c10_noRow 2 w10_noRow "ChoraleSearchModel" D ka sa base) (hret : meth.sig.returnType = (some .boolean)) (hlocks : meth.locks = false) (hname : meth.name = "noRow") : ri_clo (ri_W p l e r10_noRow s m args below meth c D ka sa base 2 (MQ below (ri_Qc D ka sa base Po) args s 0 0 (fun q => base ≤ q)) p10_noRow) (t10_noRow l Po) := by
  refine ri_clo_of ?_
  unfold t10_noRow
  exact ⟨s_iload_n X d10_noRow_0 rfl rfl,
    s_i2l X d10_noRow_1 rfl,
    s_lconst X d10_noRow_2 rfl rfl,
    s_aload_n X d10_noRow_3 rfl rfl,
    s_get X (ci := 10) (f := 26) rfl (fun w h => List.mem_cons_of_mem _ (uC_10 w h)) (by decide) (List.mem_cons_of_mem _ mgw_840) d10_noRow_4 rfl,
    s_iconst X d10_noRow_7 rfl rfl,
    s_isub X d10_noRow_8 rfl,
    s_i2l X d10_noRow_9 rfl,
    s_callS ri_NW_ok X ⟨ri_cB X 3 mgw_930 (List.mem_cons_of_mem _ mgw_12) (List.mem_cons_of_mem _ mgw_928) (by decide +kernel) rfl rfl ⟨by decide, by decide⟩, X.2.2.2.2.1 _ (List.mem_cons_of_mem _ mgw_929)⟩ d10_noRow_10 rfl,
    s_if_ne X d10_noRow_13 rfl rfl,
    s_iconst X d10_noRow_16 rfl rfl,
    s_goto X d10_noRow_17 rfl,
    s_iconst X d10_noRow_20 rfl rfl,
    s_zret X hret hlocks d10_noRow_21, trivial⟩
theorem d10_chord_0 : decode c10_chord 0 = .ok (.aload_n 0, 1) := by decide +kernel
theorem d10_chord_1 : decode c10_chord 1 = .ok (.iconst 0, 1) := by decide +kernel
theorem d10_chord_2 : decode c10_chord 2 = .ok (.putfield 1, 3) := by decide +kernel
theorem d10_chord_5 : decode c10_chord 5 = .ok (.aload_n 0, 1) := by decide +kernel
theorem d10_chord_6 : decode c10_chord 6 = .ok (.iload_n 1, 1) := by decide +kernel
theorem d10_chord_7 : decode c10_chord 7 = .ok (.invokevirtual 223, 3) := by decide +kernel
theorem d10_chord_10 : decode c10_chord 10 = .ok (.ifCond .ne 11, 3) := by decide +kernel
theorem d10_chord_13 : decode c10_chord 13 = .ok (.aload_n 0, 1) := by decide +kernel
theorem d10_chord_14 : decode c10_chord 14 = .ok (.iload_n 2, 1) := by decide +kernel
theorem d10_chord_15 : decode c10_chord 15 = .ok (.invokevirtual 130, 3) := by decide +kernel
theorem d10_chord_18 : decode c10_chord 18 = .ok (.ifCond .eq 7, 3) := by decide +kernel
theorem d10_chord_21 : decode c10_chord 21 = .ok (.iconst (-1), 1) := by decide +kernel
theorem d10_chord_22 : decode c10_chord 22 = .ok (.goto 14, 3) := by decide +kernel
theorem d10_chord_25 : decode c10_chord 25 = .ok (.aload_n 0, 1) := by decide +kernel
theorem d10_chord_26 : decode c10_chord 26 = .ok (.getfield 87, 3) := by decide +kernel
theorem d10_chord_29 : decode c10_chord 29 = .ok (.bipush 16, 2) := by decide +kernel
theorem d10_chord_31 : decode c10_chord 31 = .ok (.iload_n 1, 1) := by decide +kernel
theorem d10_chord_32 : decode c10_chord 32 = .ok (.imul, 1) := by decide +kernel
theorem d10_chord_33 : decode c10_chord 33 = .ok (.iload_n 2, 1) := by decide +kernel
theorem d10_chord_34 : decode c10_chord 34 = .ok (.iadd, 1) := by decide +kernel
theorem d10_chord_35 : decode c10_chord 35 = .ok (.iaload, 1) := by decide +kernel
theorem d10_chord_36 : decode c10_chord 36 = .ok (.ireturn, 1) := by decide +kernel
def t10_chord (l : Launch) (Po : ri_O) : List ri_S := [i_al 1 0,
  i_con 2 0,
  i_put 3 10 0 ri_isI,
  i_al 4 0,
  i_il 5 1,
  i_callV 6 2 10 (ri_Ev l y10_noRow w10_noRow r10_noRow 0 0) 0 0 0 0,
  i_if 7 11 (fun x => ¬ x = 0),
  i_al 8 0,
  i_il 9 2,
  i_callV 10 2 10 (ri_Ev l y10_noPlace w10_noPlace r10_noPlace 0 0) 0 0 0 0,
  i_if 11 13 (fun x => x = 0),
  i_con 12 (-1),
  i_goto 21,
  i_al 14 0,
  i_get 15 10 28,
  i_con 16 16,
  i_il 17 1,
  i_bin 18 (fun x y => x * y),
  i_il 19 2,
  i_bin 20 (fun x y => x + y),
  i_ald 21 0,
  i_ret Po 0 0]
set_option maxRecDepth 20000 in
set_option maxHeartbeats 4000000 in
theorem z10_chord (l : Launch) (Po : ri_O) (p : Program) (e : Env) (s : State) (m : MethodId) (args : Array Value) (below : List Frame) (meth : Method) (c : Code) (D : va_G) (ka : Nat → ClassId) (sa : Nat → Nat) (base : Nat) (X : ri_X p s m args c c10_chord 3 w10_chord "ChoraleSearchModel" D ka sa base) (hret : meth.sig.returnType = (some .int)) (hlocks : meth.locks = false) (hname : meth.name = "chord") : ri_clo (ri_W p l e r10_chord s m args below meth c D ka sa base 3 (MQ below (ri_Qc D ka sa base Po) args s 0 0 (fun q => base ≤ q)) p10_chord) (t10_chord l Po) := by
  refine ri_clo_of ?_
  unfold t10_chord
  exact ⟨s_aload_n X d10_chord_0 rfl rfl,
    s_iconst X d10_chord_1 rfl rfl,
    s_put X (ci := 10) (f := 0) rfl (fun w h => List.mem_cons_of_mem _ (uC_10 w h)) (by decide) tC_10 oC_10 nC_10 rfl ri_ok_int (List.mem_cons_of_mem _ mgw_814) d10_chord_2 rfl,
    s_aload_n X d10_chord_5 rfl rfl,
    s_iload_n X d10_chord_6 rfl rfl,
    s_callV ri_NW_ok X (na := 1) (ci := 10) rfl ⟨ri_cB X 1 mgw_1081 (List.mem_cons_of_mem _ mgw_12) (List.mem_cons_of_mem _ mgw_1078) (by decide +kernel) rfl rfl ⟨by decide, by decide⟩, X.2.2.2.2.1 _ (List.mem_cons_of_mem _ mgw_1080), X.2.2.2.2.1 _ (List.mem_cons_of_mem _ mgp_95)⟩ d10_chord_7 rfl,
    s_if_ne X d10_chord_10 rfl rfl,
    s_aload_n X d10_chord_13 rfl rfl,
    s_iload_n X d10_chord_14 rfl rfl,
    s_callV ri_NW_ok X (na := 1) (ci := 10) rfl ⟨ri_cB X 1 mgw_944 (List.mem_cons_of_mem _ mgw_12) (List.mem_cons_of_mem _ mgw_941) (by decide +kernel) rfl rfl ⟨by decide, by decide⟩, X.2.2.2.2.1 _ (List.mem_cons_of_mem _ mgw_943), X.2.2.2.2.1 _ (List.mem_cons_of_mem _ mgp_77)⟩ d10_chord_15 rfl,
    s_if_eq X d10_chord_18 rfl rfl,
    s_iconst X d10_chord_21 rfl rfl,
    s_goto X d10_chord_22 rfl,
    s_aload_n X d10_chord_25 rfl rfl,
    s_get X (ci := 10) (f := 28) rfl (fun w h => List.mem_cons_of_mem _ (uC_10 w h)) (by decide) (List.mem_cons_of_mem _ mgw_842) d10_chord_26 rfl,
    s_bipush X d10_chord_29 rfl rfl,
    s_iload_n X d10_chord_31 rfl rfl,
    s_imul X d10_chord_32 rfl,
    s_iload_n X d10_chord_33 rfl rfl,
    s_iadd X d10_chord_34 rfl,
    s_iald X rfl d10_chord_35 rfl,
    s_iret X hret hlocks d10_chord_36, trivial⟩
theorem d10_sum_0 : decode c10_sum 0 = .ok (.aload_n 0, 1) := by decide +kernel
theorem d10_sum_1 : decode c10_sum 1 = .ok (.iconst 0, 1) := by decide +kernel
theorem d10_sum_2 : decode c10_sum 2 = .ok (.putfield 1, 3) := by decide +kernel
theorem d10_sum_5 : decode c10_sum 5 = .ok (.aload_n 0, 1) := by decide +kernel
theorem d10_sum_6 : decode c10_sum 6 = .ok (.iload_n 1, 1) := by decide +kernel
theorem d10_sum_7 : decode c10_sum 7 = .ok (.invokevirtual 223, 3) := by decide +kernel
theorem d10_sum_10 : decode c10_sum 10 = .ok (.ifCond .eq 7, 3) := by decide +kernel
theorem d10_sum_13 : decode c10_sum 13 = .ok (.iconst (-1), 1) := by decide +kernel
theorem d10_sum_14 : decode c10_sum 14 = .ok (.goto 9, 3) := by decide +kernel
theorem d10_sum_17 : decode c10_sum 17 = .ok (.aload_n 0, 1) := by decide +kernel
theorem d10_sum_18 : decode c10_sum 18 = .ok (.getfield 90, 3) := by decide +kernel
theorem d10_sum_21 : decode c10_sum 21 = .ok (.iload_n 1, 1) := by decide +kernel
theorem d10_sum_22 : decode c10_sum 22 = .ok (.iaload, 1) := by decide +kernel
theorem d10_sum_23 : decode c10_sum 23 = .ok (.ireturn, 1) := by decide +kernel
def t10_sum (l : Launch) (Po : ri_O) : List ri_S := [i_al 1 0,
  i_con 2 0,
  i_put 3 10 0 ri_isI,
  i_al 4 0,
  i_il 5 1,
  i_callV 6 2 10 (ri_Ev l y10_noRow w10_noRow r10_noRow 0 0) 0 0 0 0,
  i_if 7 9 (fun x => x = 0),
  i_con 8 (-1),
  i_goto 13,
  i_al 10 0,
  i_get 11 10 29,
  i_il 12 1,
  i_ald 13 0,
  i_ret Po 0 0]
set_option maxRecDepth 20000 in
set_option maxHeartbeats 4000000 in
theorem z10_sum (l : Launch) (Po : ri_O) (p : Program) (e : Env) (s : State) (m : MethodId) (args : Array Value) (below : List Frame) (meth : Method) (c : Code) (D : va_G) (ka : Nat → ClassId) (sa : Nat → Nat) (base : Nat) (X : ri_X p s m args c c10_sum 2 w10_sum "ChoraleSearchModel" D ka sa base) (hret : meth.sig.returnType = (some .int)) (hlocks : meth.locks = false) (hname : meth.name = "sum") : ri_clo (ri_W p l e r10_sum s m args below meth c D ka sa base 2 (MQ below (ri_Qc D ka sa base Po) args s 0 0 (fun q => base ≤ q)) p10_sum) (t10_sum l Po) := by
  refine ri_clo_of ?_
  unfold t10_sum
  exact ⟨s_aload_n X d10_sum_0 rfl rfl,
    s_iconst X d10_sum_1 rfl rfl,
    s_put X (ci := 10) (f := 0) rfl (fun w h => List.mem_cons_of_mem _ (uC_10 w h)) (by decide) tC_10 oC_10 nC_10 rfl ri_ok_int (List.mem_cons_of_mem _ mgw_814) d10_sum_2 rfl,
    s_aload_n X d10_sum_5 rfl rfl,
    s_iload_n X d10_sum_6 rfl rfl,
    s_callV ri_NW_ok X (na := 1) (ci := 10) rfl ⟨ri_cB X 1 mgw_1081 (List.mem_cons_of_mem _ mgw_12) (List.mem_cons_of_mem _ mgw_1078) (by decide +kernel) rfl rfl ⟨by decide, by decide⟩, X.2.2.2.2.1 _ (List.mem_cons_of_mem _ mgw_1080), X.2.2.2.2.1 _ (List.mem_cons_of_mem _ mgp_95)⟩ d10_sum_7 rfl,
    s_if_eq X d10_sum_10 rfl rfl,
    s_iconst X d10_sum_13 rfl rfl,
    s_goto X d10_sum_14 rfl,
    s_aload_n X d10_sum_17 rfl rfl,
    s_get X (ci := 10) (f := 29) rfl (fun w h => List.mem_cons_of_mem _ (uC_10 w h)) (by decide) (List.mem_cons_of_mem _ mgw_843) d10_sum_18 rfl,
    s_iload_n X d10_sum_21 rfl rfl,
    s_iald X rfl d10_sum_22 rfl,
    s_iret X hret hlocks d10_sum_23, trivial⟩
theorem d10_least_0 : decode c10_least 0 = .ok (.aload_n 0, 1) := by decide +kernel
theorem d10_least_1 : decode c10_least 1 = .ok (.iconst 0, 1) := by decide +kernel
theorem d10_least_2 : decode c10_least 2 = .ok (.putfield 1, 3) := by decide +kernel
theorem d10_least_5 : decode c10_least 5 = .ok (.aload_n 0, 1) := by decide +kernel
theorem d10_least_6 : decode c10_least 6 = .ok (.getfield 123, 3) := by decide +kernel
theorem d10_least_9 : decode c10_least 9 = .ok (.ifCond .ne 7, 3) := by decide +kernel
theorem d10_least_12 : decode c10_least 12 = .ok (.iconst (-1), 1) := by decide +kernel
theorem d10_least_13 : decode c10_least 13 = .ok (.goto 15, 3) := by decide +kernel
theorem d10_least_16 : decode c10_least 16 = .ok (.aload_n 0, 1) := by decide +kernel
theorem d10_least_17 : decode c10_least 17 = .ok (.getfield 217, 3) := by decide +kernel
theorem d10_least_20 : decode c10_least 20 = .ok (.ifCond .eq 7, 3) := by decide +kernel
theorem d10_least_23 : decode c10_least 23 = .ok (.iconst 1, 1) := by decide +kernel
theorem d10_least_24 : decode c10_least 24 = .ok (.goto 4, 3) := by decide +kernel
theorem d10_least_27 : decode c10_least 27 = .ok (.iconst 0, 1) := by decide +kernel
theorem d10_least_28 : decode c10_least 28 = .ok (.ireturn, 1) := by decide +kernel
def t10_least (l : Launch) (Po : ri_O) : List ri_S := [i_al 1 0,
  i_con 2 0,
  i_put 3 10 0 ri_isI,
  i_al 4 0,
  i_get 5 10 26,
  i_if 6 8 (fun x => ¬ x = 0),
  i_con 7 (-1),
  i_goto 14,
  i_al 9 0,
  i_get 10 10 30,
  i_if 11 13 (fun x => x = 0),
  i_con 12 1,
  i_goto 14,
  i_con 14 0,
  i_ret Po 0 0]
set_option maxRecDepth 20000 in
set_option maxHeartbeats 4000000 in
theorem z10_least (l : Launch) (Po : ri_O) (p : Program) (e : Env) (s : State) (m : MethodId) (args : Array Value) (below : List Frame) (meth : Method) (c : Code) (D : va_G) (ka : Nat → ClassId) (sa : Nat → Nat) (base : Nat) (X : ri_X p s m args c c10_least 1 w10_least "ChoraleSearchModel" D ka sa base) (hret : meth.sig.returnType = (some .int)) (hlocks : meth.locks = false) (hname : meth.name = "least") : ri_clo (ri_W p l e r10_least s m args below meth c D ka sa base 1 (MQ below (ri_Qc D ka sa base Po) args s 0 0 (fun q => base ≤ q)) p10_least) (t10_least l Po) := by
  refine ri_clo_of ?_
  unfold t10_least
  exact ⟨s_aload_n X d10_least_0 rfl rfl,
    s_iconst X d10_least_1 rfl rfl,
    s_put X (ci := 10) (f := 0) rfl (fun w h => List.mem_cons_of_mem _ (uC_10 w h)) (by decide) tC_10 oC_10 nC_10 rfl ri_ok_int (List.mem_cons_of_mem _ mgw_814) d10_least_2 rfl,
    s_aload_n X d10_least_5 rfl rfl,
    s_get X (ci := 10) (f := 26) rfl (fun w h => List.mem_cons_of_mem _ (uC_10 w h)) (by decide) (List.mem_cons_of_mem _ mgw_840) d10_least_6 rfl,
    s_if_ne X d10_least_9 rfl rfl,
    s_iconst X d10_least_12 rfl rfl,
    s_goto X d10_least_13 rfl,
    s_aload_n X d10_least_16 rfl rfl,
    s_get X (ci := 10) (f := 30) rfl (fun w h => List.mem_cons_of_mem _ (uC_10 w h)) (by decide) (List.mem_cons_of_mem _ mgw_844) d10_least_17 rfl,
    s_if_eq X d10_least_20 rfl rfl,
    s_iconst X d10_least_23 rfl rfl,
    s_goto X d10_least_24 rfl,
    s_iconst X d10_least_27 rfl rfl,
    s_iret X hret hlocks d10_least_28, trivial⟩
theorem d10_blocked_0 : decode c10_blocked 0 = .ok (.aload_n 0, 1) := by decide +kernel
theorem d10_blocked_1 : decode c10_blocked 1 = .ok (.iconst 0, 1) := by decide +kernel
theorem d10_blocked_2 : decode c10_blocked 2 = .ok (.putfield 1, 3) := by decide +kernel
theorem d10_blocked_5 : decode c10_blocked 5 = .ok (.iload_n 1, 1) := by decide +kernel
theorem d10_blocked_6 : decode c10_blocked 6 = .ok (.i2l, 1) := by decide +kernel
theorem d10_blocked_7 : decode c10_blocked 7 = .ok (.lconst 0, 1) := by decide +kernel
theorem d10_blocked_8 : decode c10_blocked 8 = .ok (.ldc2_w 229, 3) := by decide +kernel
theorem d10_blocked_11 : decode c10_blocked 11 = .ok (.invokestatic 119, 3) := by decide +kernel
theorem d10_blocked_14 : decode c10_blocked 14 = .ok (.ifCond .ne 5, 3) := by decide +kernel
theorem d10_blocked_17 : decode c10_blocked 17 = .ok (.iconst (-1), 1) := by decide +kernel
theorem d10_blocked_18 : decode c10_blocked 18 = .ok (.ireturn, 1) := by decide +kernel
theorem d10_blocked_19 : decode c10_blocked 19 = .ok (.aload_n 0, 1) := by decide +kernel
theorem d10_blocked_20 : decode c10_blocked 20 = .ok (.invokevirtual 210, 3) := by decide +kernel
theorem d10_blocked_23 : decode c10_blocked 23 = .ok (.ifCond .ne 6, 3) := by decide +kernel
theorem d10_blocked_26 : decode c10_blocked 26 = .ok (.bipush (-3), 2) := by decide +kernel
theorem d10_blocked_28 : decode c10_blocked 28 = .ok (.ireturn, 1) := by decide +kernel
theorem d10_blocked_29 : decode c10_blocked 29 = .ok (.aload_n 0, 1) := by decide +kernel
theorem d10_blocked_30 : decode c10_blocked 30 = .ok (.invokevirtual 231, 3) := by decide +kernel
theorem d10_blocked_33 : decode c10_blocked 33 = .ok (.istore_n 2, 1) := by decide +kernel
theorem d10_blocked_34 : decode c10_blocked 34 = .ok (.iload_n 2, 1) := by decide +kernel
theorem d10_blocked_35 : decode c10_blocked 35 = .ok (.ifCond .ge 6, 3) := by decide +kernel
theorem d10_blocked_38 : decode c10_blocked 38 = .ok (.bipush (-2), 2) := by decide +kernel
theorem d10_blocked_40 : decode c10_blocked 40 = .ok (.ireturn, 1) := by decide +kernel
theorem d10_blocked_41 : decode c10_blocked 41 = .ok (.iload_n 1, 1) := by decide +kernel
theorem d10_blocked_42 : decode c10_blocked 42 = .ok (.iconst 2, 1) := by decide +kernel
theorem d10_blocked_43 : decode c10_blocked 43 = .ok (.if_icmp .ge 18, 3) := by decide +kernel
theorem d10_blocked_46 : decode c10_blocked 46 = .ok (.iload_n 1, 1) := by decide +kernel
theorem d10_blocked_47 : decode c10_blocked 47 = .ok (.ifCond .ne 7, 3) := by decide +kernel
theorem d10_blocked_50 : decode c10_blocked 50 = .ok (.iload_n 2, 1) := by decide +kernel
theorem d10_blocked_51 : decode c10_blocked 51 = .ok (.goto 9, 3) := by decide +kernel
theorem d10_blocked_54 : decode c10_blocked 54 = .ok (.aload_n 0, 1) := by decide +kernel
theorem d10_blocked_55 : decode c10_blocked 55 = .ok (.getfield 63, 3) := by decide +kernel
theorem d10_blocked_58 : decode c10_blocked 58 = .ok (.iload_n 2, 1) := by decide +kernel
theorem d10_blocked_59 : decode c10_blocked 59 = .ok (.iaload, 1) := by decide +kernel
theorem d10_blocked_60 : decode c10_blocked 60 = .ok (.ireturn, 1) := by decide +kernel
theorem d10_blocked_61 : decode c10_blocked 61 = .ok (.aload_n 0, 1) := by decide +kernel
theorem d10_blocked_62 : decode c10_blocked 62 = .ok (.getfield 63, 3) := by decide +kernel
theorem d10_blocked_65 : decode c10_blocked 65 = .ok (.iload_n 2, 1) := by decide +kernel
theorem d10_blocked_66 : decode c10_blocked 66 = .ok (.iaload, 1) := by decide +kernel
theorem d10_blocked_67 : decode c10_blocked 67 = .ok (.ifCond .le 8, 3) := by decide +kernel
theorem d10_blocked_70 : decode c10_blocked 70 = .ok (.aload_n 0, 1) := by decide +kernel
theorem d10_blocked_71 : decode c10_blocked 71 = .ok (.getfield 226, 3) := by decide +kernel
theorem d10_blocked_74 : decode c10_blocked 74 = .ok (.ireturn, 1) := by decide +kernel
theorem d10_blocked_75 : decode c10_blocked 75 = .ok (.aload_n 0, 1) := by decide +kernel
theorem d10_blocked_76 : decode c10_blocked 76 = .ok (.iload_n 2, 1) := by decide +kernel
theorem d10_blocked_77 : decode c10_blocked 77 = .ok (.iconst 0, 1) := by decide +kernel
theorem d10_blocked_78 : decode c10_blocked 78 = .ok (.iconst 1, 1) := by decide +kernel
theorem d10_blocked_79 : decode c10_blocked 79 = .ok (.invokevirtual 175, 3) := by decide +kernel
theorem d10_blocked_82 : decode c10_blocked 82 = .ok (.istore_n 3, 1) := by decide +kernel
theorem d10_blocked_83 : decode c10_blocked 83 = .ok (.aload_n 0, 1) := by decide +kernel
theorem d10_blocked_84 : decode c10_blocked 84 = .ok (.getfield 149, 3) := by decide +kernel
theorem d10_blocked_87 : decode c10_blocked 87 = .ok (.ireturn, 1) := by decide +kernel
def t10_blocked (l : Launch) (Po : ri_O) : List ri_S := [i_al 1 0,
  i_con 2 0,
  i_put 3 10 0 ri_isI,
  i_il 4 1,
  i_i2l 5,
  i_lcon 6 0,
  i_lcon 7 2,
  i_call 8 3 (ri_Ev l y10_in w10_in r10_in 0 0) 0 0 0 0,
  i_if 9 11 (fun x => ¬ x = 0),
  i_con 10 (-1),
  i_ret Po 0 0,
  i_al 12 0,
  i_callV 13 1 10 (ri_Ev l y10_findAll w10_findAll r10_findAll 0 0) 0 0 0 0,
  i_if 14 16 (fun x => ¬ x = 0),
  i_con 15 (-3),
  i_ret Po 0 0,
  i_al 17 0,
  i_callV 18 1 10 (ri_Ev l y10_firstBarred w10_firstBarred r10_firstBarred 0 0) 0 0 0 0,
  i_is 19 2,
  i_il 20 2,
  i_if 21 23 (fun x => 0 ≤ x),
  i_con 22 (-2),
  i_ret Po 0 0,
  i_il 24 1,
  i_con 25 2,
  i_icmp 26 35 (fun x y => y ≤ x),
  i_il 27 1,
  i_if 28 30 (fun x => ¬ x = 0),
  i_il 29 2,
  i_goto 34,
  i_al 31 0,
  i_get 32 10 19,
  i_il 33 2,
  i_ald 34 0,
  i_ret Po 0 0,
  i_al 36 0,
  i_get 37 10 19,
  i_il 38 2,
  i_ald 39 0,
  i_if 40 43 (fun x => x ≤ 0),
  i_al 41 0,
  i_get 42 10 35,
  i_ret Po 0 0,
  i_al 44 0,
  i_il 45 2,
  i_con 46 0,
  i_con 47 1,
  i_callV 48 4 10 (ri_Ev l y10_findStates w10_findStates r10_findStates 0 0) 0 0 0 0,
  i_is 49 3,
  i_al 50 0,
  i_get 51 10 32,
  i_ret Po 0 0]
set_option maxRecDepth 20000 in
set_option maxHeartbeats 4000000 in
theorem z10_blocked (l : Launch) (Po : ri_O) (p : Program) (e : Env) (s : State) (m : MethodId) (args : Array Value) (below : List Frame) (meth : Method) (c : Code) (D : va_G) (ka : Nat → ClassId) (sa : Nat → Nat) (base : Nat) (X : ri_X p s m args c c10_blocked 4 w10_blocked "ChoraleSearchModel" D ka sa base) (hret : meth.sig.returnType = (some .int)) (hlocks : meth.locks = false) (hname : meth.name = "blocked") : ri_clo (ri_W p l e r10_blocked s m args below meth c D ka sa base 4 (MQ below (ri_Qc D ka sa base Po) args s 0 0 (fun q => base ≤ q)) p10_blocked) (t10_blocked l Po) := by
  refine ri_clo_of ?_
  unfold t10_blocked
  exact ⟨s_aload_n X d10_blocked_0 rfl rfl,
    s_iconst X d10_blocked_1 rfl rfl,
    s_put X (ci := 10) (f := 0) rfl (fun w h => List.mem_cons_of_mem _ (uC_10 w h)) (by decide) tC_10 oC_10 nC_10 rfl ri_ok_int (List.mem_cons_of_mem _ mgw_814) d10_blocked_2 rfl,
    s_iload_n X d10_blocked_5 rfl rfl,
    s_i2l X d10_blocked_6 rfl,
    s_lconst X d10_blocked_7 rfl rfl,
    s_ldc2 X d10_blocked_8 (List.mem_cons_of_mem _ mgw_1098) rfl,
    s_callS ri_NW_ok X ⟨ri_cB X 3 mgw_930 (List.mem_cons_of_mem _ mgw_12) (List.mem_cons_of_mem _ mgw_928) (by decide +kernel) rfl rfl ⟨by decide, by decide⟩, X.2.2.2.2.1 _ (List.mem_cons_of_mem _ mgw_929)⟩ d10_blocked_11 rfl,
    s_if_ne X d10_blocked_14 rfl rfl,
    s_iconst X d10_blocked_17 rfl rfl,
    s_iret X hret hlocks d10_blocked_18,
    s_aload_n X d10_blocked_19 rfl rfl,
    s_callV ri_NW_ok X (na := 0) (ci := 10) rfl ⟨ri_cB X 0 mgw_1033 (List.mem_cons_of_mem _ mgw_12) (List.mem_cons_of_mem _ mgw_1030) (by decide +kernel) rfl rfl ⟨by decide, by decide⟩, X.2.2.2.2.1 _ (List.mem_cons_of_mem _ mgw_1032), X.2.2.2.2.1 _ (List.mem_cons_of_mem _ mgp_87)⟩ d10_blocked_20 rfl,
    s_if_ne X d10_blocked_23 rfl rfl,
    s_bipush X d10_blocked_26 rfl rfl,
    s_iret X hret hlocks d10_blocked_28,
    s_aload_n X d10_blocked_29 rfl rfl,
    s_callV ri_NW_ok X (na := 0) (ci := 10) rfl ⟨ri_cB X 0 mgw_1102 (List.mem_cons_of_mem _ mgw_12) (List.mem_cons_of_mem _ mgw_1099) (by decide +kernel) rfl rfl ⟨by decide, by decide⟩, X.2.2.2.2.1 _ (List.mem_cons_of_mem _ mgw_1101), X.2.2.2.2.1 _ (List.mem_cons_of_mem _ mgp_96)⟩ d10_blocked_30 rfl,
    s_istore_n X d10_blocked_33 rfl (by decide) rfl,
    s_iload_n X d10_blocked_34 rfl rfl,
    s_if_ge X d10_blocked_35 rfl rfl,
    s_bipush X d10_blocked_38 rfl rfl,
    s_iret X hret hlocks d10_blocked_40,
    s_iload_n X d10_blocked_41 rfl rfl,
    s_iconst X d10_blocked_42 rfl rfl,
    s_icmp_ge X d10_blocked_43 rfl rfl,
    s_iload_n X d10_blocked_46 rfl rfl,
    s_if_ne X d10_blocked_47 rfl rfl,
    s_iload_n X d10_blocked_50 rfl rfl,
    s_goto X d10_blocked_51 rfl,
    s_aload_n X d10_blocked_54 rfl rfl,
    s_get X (ci := 10) (f := 19) rfl (fun w h => List.mem_cons_of_mem _ (uC_10 w h)) (by decide) (List.mem_cons_of_mem _ mgw_833) d10_blocked_55 rfl,
    s_iload_n X d10_blocked_58 rfl rfl,
    s_iald X rfl d10_blocked_59 rfl,
    s_iret X hret hlocks d10_blocked_60,
    s_aload_n X d10_blocked_61 rfl rfl,
    s_get X (ci := 10) (f := 19) rfl (fun w h => List.mem_cons_of_mem _ (uC_10 w h)) (by decide) (List.mem_cons_of_mem _ mgw_833) d10_blocked_62 rfl,
    s_iload_n X d10_blocked_65 rfl rfl,
    s_iald X rfl d10_blocked_66 rfl,
    s_if_le X d10_blocked_67 rfl rfl,
    s_aload_n X d10_blocked_70 rfl rfl,
    s_get X (ci := 10) (f := 35) rfl (fun w h => List.mem_cons_of_mem _ (uC_10 w h)) (by decide) (List.mem_cons_of_mem _ mgw_849) d10_blocked_71 rfl,
    s_iret X hret hlocks d10_blocked_74,
    s_aload_n X d10_blocked_75 rfl rfl,
    s_iload_n X d10_blocked_76 rfl rfl,
    s_iconst X d10_blocked_77 rfl rfl,
    s_iconst X d10_blocked_78 rfl rfl,
    s_callV ri_NW_ok X (na := 3) (ci := 10) rfl ⟨ri_cB X 3 mgw_986 (List.mem_cons_of_mem _ mgw_12) (List.mem_cons_of_mem _ mgw_983) (by decide +kernel) rfl rfl ⟨by decide, by decide⟩, X.2.2.2.2.1 _ (List.mem_cons_of_mem _ mgw_985), X.2.2.2.2.1 _ (List.mem_cons_of_mem _ mgp_78)⟩ d10_blocked_79 rfl,
    s_istore_n X d10_blocked_82 rfl (by decide) rfl,
    s_aload_n X d10_blocked_83 rfl rfl,
    s_get X (ci := 10) (f := 32) rfl (fun w h => List.mem_cons_of_mem _ (uC_10 w h)) (by decide) (List.mem_cons_of_mem _ mgw_846) d10_blocked_84 rfl,
    s_iret X hret hlocks d10_blocked_87, trivial⟩
theorem d10_firstBarred_0 : decode c10_firstBarred 0 = .ok (.aload_n 0, 1) := by decide +kernel
theorem d10_firstBarred_1 : decode c10_firstBarred 1 = .ok (.iconst 0, 1) := by decide +kernel
theorem d10_firstBarred_2 : decode c10_firstBarred 2 = .ok (.putfield 226, 3) := by decide +kernel
theorem d10_firstBarred_5 : decode c10_firstBarred 5 = .ok (.iconst 0, 1) := by decide +kernel
theorem d10_firstBarred_6 : decode c10_firstBarred 6 = .ok (.istore_n 1, 1) := by decide +kernel
theorem d10_firstBarred_7 : decode c10_firstBarred 7 = .ok (.iload_n 1, 1) := by decide +kernel
theorem d10_firstBarred_8 : decode c10_firstBarred 8 = .ok (.aload_n 0, 1) := by decide +kernel
theorem d10_firstBarred_9 : decode c10_firstBarred 9 = .ok (.getfield 63, 3) := by decide +kernel
theorem d10_firstBarred_12 : decode c10_firstBarred 12 = .ok (.iconst 0, 1) := by decide +kernel
theorem d10_firstBarred_13 : decode c10_firstBarred 13 = .ok (.iaload, 1) := by decide +kernel
theorem d10_firstBarred_14 : decode c10_firstBarred 14 = .ok (.if_icmp .ge 16, 3) := by decide +kernel
theorem d10_firstBarred_17 : decode c10_firstBarred 17 = .ok (.aload_n 0, 1) := by decide +kernel
theorem d10_firstBarred_18 : decode c10_firstBarred 18 = .ok (.getfield 81, 3) := by decide +kernel
theorem d10_firstBarred_21 : decode c10_firstBarred 21 = .ok (.iload_n 1, 1) := by decide +kernel
theorem d10_firstBarred_22 : decode c10_firstBarred 22 = .ok (.iconst 1, 1) := by decide +kernel
theorem d10_firstBarred_23 : decode c10_firstBarred 23 = .ok (.bastore, 1) := by decide +kernel
theorem d10_firstBarred_24 : decode c10_firstBarred 24 = .ok (.iinc 1 1, 3) := by decide +kernel
theorem d10_firstBarred_27 : decode c10_firstBarred 27 = .ok (.goto (-20), 3) := by decide +kernel
theorem d10_firstBarred_30 : decode c10_firstBarred 30 = .ok (.aload_n 0, 1) := by decide +kernel
theorem d10_firstBarred_31 : decode c10_firstBarred 31 = .ok (.getfield 63, 3) := by decide +kernel
theorem d10_firstBarred_34 : decode c10_firstBarred 34 = .ok (.iconst 0, 1) := by decide +kernel
theorem d10_firstBarred_35 : decode c10_firstBarred 35 = .ok (.iaload, 1) := by decide +kernel
theorem d10_firstBarred_36 : decode c10_firstBarred 36 = .ok (.ifCond .ne 5, 3) := by decide +kernel
theorem d10_firstBarred_39 : decode c10_firstBarred 39 = .ok (.iconst 0, 1) := by decide +kernel
theorem d10_firstBarred_40 : decode c10_firstBarred 40 = .ok (.ireturn, 1) := by decide +kernel
theorem d10_firstBarred_41 : decode c10_firstBarred 41 = .ok (.iconst 1, 1) := by decide +kernel
theorem d10_firstBarred_42 : decode c10_firstBarred 42 = .ok (.istore_n 1, 1) := by decide +kernel
theorem d10_firstBarred_43 : decode c10_firstBarred 43 = .ok (.iload_n 1, 1) := by decide +kernel
theorem d10_firstBarred_44 : decode c10_firstBarred 44 = .ok (.aload_n 0, 1) := by decide +kernel
theorem d10_firstBarred_45 : decode c10_firstBarred 45 = .ok (.getfield 26, 3) := by decide +kernel
theorem d10_firstBarred_48 : decode c10_firstBarred 48 = .ok (.if_icmp .ge 167, 3) := by decide +kernel
theorem d10_firstBarred_51 : decode c10_firstBarred 51 = .ok (.iconst 0, 1) := by decide +kernel
theorem d10_firstBarred_52 : decode c10_firstBarred 52 = .ok (.istore_n 2, 1) := by decide +kernel
theorem d10_firstBarred_53 : decode c10_firstBarred 53 = .ok (.aload_n 0, 1) := by decide +kernel
theorem d10_firstBarred_54 : decode c10_firstBarred 54 = .ok (.iconst 0, 1) := by decide +kernel
theorem d10_firstBarred_55 : decode c10_firstBarred 55 = .ok (.putfield 226, 3) := by decide +kernel
theorem d10_firstBarred_58 : decode c10_firstBarred 58 = .ok (.sipush 400, 3) := by decide +kernel
theorem d10_firstBarred_61 : decode c10_firstBarred 61 = .ok (.iload_n 1, 1) := by decide +kernel
theorem d10_firstBarred_62 : decode c10_firstBarred 62 = .ok (.imul, 1) := by decide +kernel
theorem d10_firstBarred_63 : decode c10_firstBarred 63 = .ok (.istore_n 3, 1) := by decide +kernel
theorem d10_firstBarred_64 : decode c10_firstBarred 64 = .ok (.iload_n 3, 1) := by decide +kernel
theorem d10_firstBarred_65 : decode c10_firstBarred 65 = .ok (.sipush 400, 3) := by decide +kernel
theorem d10_firstBarred_68 : decode c10_firstBarred 68 = .ok (.iload_n 1, 1) := by decide +kernel
theorem d10_firstBarred_69 : decode c10_firstBarred 69 = .ok (.imul, 1) := by decide +kernel
theorem d10_firstBarred_70 : decode c10_firstBarred 70 = .ok (.aload_n 0, 1) := by decide +kernel
theorem d10_firstBarred_71 : decode c10_firstBarred 71 = .ok (.getfield 63, 3) := by decide +kernel
theorem d10_firstBarred_74 : decode c10_firstBarred 74 = .ok (.iload_n 1, 1) := by decide +kernel
theorem d10_firstBarred_75 : decode c10_firstBarred 75 = .ok (.iaload, 1) := by decide +kernel
theorem d10_firstBarred_76 : decode c10_firstBarred 76 = .ok (.iadd, 1) := by decide +kernel
theorem d10_firstBarred_77 : decode c10_firstBarred 77 = .ok (.if_icmp .ge 126, 3) := by decide +kernel
theorem d10_firstBarred_80 : decode c10_firstBarred 80 = .ok (.aload_n 0, 1) := by decide +kernel
theorem d10_firstBarred_81 : decode c10_firstBarred 81 = .ok (.getfield 81, 3) := by decide +kernel
theorem d10_firstBarred_84 : decode c10_firstBarred 84 = .ok (.iload_n 3, 1) := by decide +kernel
theorem d10_firstBarred_85 : decode c10_firstBarred 85 = .ok (.iconst 0, 1) := by decide +kernel
theorem d10_firstBarred_86 : decode c10_firstBarred 86 = .ok (.bastore, 1) := by decide +kernel
theorem d10_firstBarred_87 : decode c10_firstBarred 87 = .ok (.sipush 400, 3) := by decide +kernel
theorem d10_firstBarred_90 : decode c10_firstBarred 90 = .ok (.iload_n 1, 1) := by decide +kernel
theorem d10_firstBarred_91 : decode c10_firstBarred 91 = .ok (.iconst 1, 1) := by decide +kernel
theorem d10_firstBarred_92 : decode c10_firstBarred 92 = .ok (.isub, 1) := by decide +kernel
theorem d10_firstBarred_93 : decode c10_firstBarred 93 = .ok (.imul, 1) := by decide +kernel
theorem d10_firstBarred_94 : decode c10_firstBarred 94 = .ok (.istore 4, 2) := by decide +kernel
theorem d10_firstBarred_96 : decode c10_firstBarred 96 = .ok (.iload 4, 2) := by decide +kernel
theorem d10_firstBarred_98 : decode c10_firstBarred 98 = .ok (.sipush 400, 3) := by decide +kernel
theorem d10_firstBarred_101 : decode c10_firstBarred 101 = .ok (.iload_n 1, 1) := by decide +kernel
theorem d10_firstBarred_102 : decode c10_firstBarred 102 = .ok (.iconst 1, 1) := by decide +kernel
theorem d10_firstBarred_103 : decode c10_firstBarred 103 = .ok (.isub, 1) := by decide +kernel
theorem d10_firstBarred_104 : decode c10_firstBarred 104 = .ok (.imul, 1) := by decide +kernel
theorem d10_firstBarred_105 : decode c10_firstBarred 105 = .ok (.aload_n 0, 1) := by decide +kernel
theorem d10_firstBarred_106 : decode c10_firstBarred 106 = .ok (.getfield 63, 3) := by decide +kernel
theorem d10_firstBarred_109 : decode c10_firstBarred 109 = .ok (.iload_n 1, 1) := by decide +kernel
theorem d10_firstBarred_110 : decode c10_firstBarred 110 = .ok (.iconst 1, 1) := by decide +kernel
theorem d10_firstBarred_111 : decode c10_firstBarred 111 = .ok (.isub, 1) := by decide +kernel
theorem d10_firstBarred_112 : decode c10_firstBarred 112 = .ok (.iaload, 1) := by decide +kernel
theorem d10_firstBarred_113 : decode c10_firstBarred 113 = .ok (.iadd, 1) := by decide +kernel
theorem d10_firstBarred_114 : decode c10_firstBarred 114 = .ok (.if_icmp .ge 64, 3) := by decide +kernel
theorem d10_firstBarred_117 : decode c10_firstBarred 117 = .ok (.aload_n 0, 1) := by decide +kernel
theorem d10_firstBarred_118 : decode c10_firstBarred 118 = .ok (.getfield 81, 3) := by decide +kernel
theorem d10_firstBarred_121 : decode c10_firstBarred 121 = .ok (.iload 4, 2) := by decide +kernel
theorem d10_firstBarred_123 : decode c10_firstBarred 123 = .ok (.baload, 1) := by decide +kernel
theorem d10_firstBarred_124 : decode c10_firstBarred 124 = .ok (.ifCond .eq 48, 3) := by decide +kernel
theorem d10_firstBarred_127 : decode c10_firstBarred 127 = .ok (.aload_n 0, 1) := by decide +kernel
theorem d10_firstBarred_128 : decode c10_firstBarred 128 = .ok (.iload 4, 2) := by decide +kernel
theorem d10_firstBarred_130 : decode c10_firstBarred 130 = .ok (.iload_n 3, 1) := by decide +kernel
theorem d10_firstBarred_131 : decode c10_firstBarred 131 = .ok (.invokevirtual 198, 3) := by decide +kernel
theorem d10_firstBarred_134 : decode c10_firstBarred 134 = .ok (.istore 5, 2) := by decide +kernel
theorem d10_firstBarred_136 : decode c10_firstBarred 136 = .ok (.aload_n 0, 1) := by decide +kernel
theorem d10_firstBarred_137 : decode c10_firstBarred 137 = .ok (.aload_n 0, 1) := by decide +kernel
theorem d10_firstBarred_138 : decode c10_firstBarred 138 = .ok (.getfield 226, 3) := by decide +kernel
theorem d10_firstBarred_141 : decode c10_firstBarred 141 = .ok (.iload 5, 2) := by decide +kernel
theorem d10_firstBarred_143 : decode c10_firstBarred 143 = .ok (.ior, 1) := by decide +kernel
theorem d10_firstBarred_144 : decode c10_firstBarred 144 = .ok (.putfield 226, 3) := by decide +kernel
theorem d10_firstBarred_147 : decode c10_firstBarred 147 = .ok (.aload_n 0, 1) := by decide +kernel
theorem d10_firstBarred_148 : decode c10_firstBarred 148 = .ok (.getfield 81, 3) := by decide +kernel
theorem d10_firstBarred_151 : decode c10_firstBarred 151 = .ok (.iload_n 3, 1) := by decide +kernel
theorem d10_firstBarred_152 : decode c10_firstBarred 152 = .ok (.aload_n 0, 1) := by decide +kernel
theorem d10_firstBarred_153 : decode c10_firstBarred 153 = .ok (.getfield 81, 3) := by decide +kernel
theorem d10_firstBarred_156 : decode c10_firstBarred 156 = .ok (.iload_n 3, 1) := by decide +kernel
theorem d10_firstBarred_157 : decode c10_firstBarred 157 = .ok (.baload, 1) := by decide +kernel
theorem d10_firstBarred_158 : decode c10_firstBarred 158 = .ok (.ifCond .ne 8, 3) := by decide +kernel
theorem d10_firstBarred_161 : decode c10_firstBarred 161 = .ok (.iload 5, 2) := by decide +kernel
theorem d10_firstBarred_163 : decode c10_firstBarred 163 = .ok (.ifCond .ne 7, 3) := by decide +kernel
theorem d10_firstBarred_166 : decode c10_firstBarred 166 = .ok (.iconst 1, 1) := by decide +kernel
theorem d10_firstBarred_167 : decode c10_firstBarred 167 = .ok (.goto 4, 3) := by decide +kernel
theorem d10_firstBarred_170 : decode c10_firstBarred 170 = .ok (.iconst 0, 1) := by decide +kernel
theorem d10_firstBarred_171 : decode c10_firstBarred 171 = .ok (.bastore, 1) := by decide +kernel
theorem d10_firstBarred_172 : decode c10_firstBarred 172 = .ok (.iinc 4 1, 3) := by decide +kernel
theorem d10_firstBarred_175 : decode c10_firstBarred 175 = .ok (.goto (-79), 3) := by decide +kernel
theorem d10_firstBarred_178 : decode c10_firstBarred 178 = .ok (.iload_n 2, 1) := by decide +kernel
theorem d10_firstBarred_179 : decode c10_firstBarred 179 = .ok (.ifCond .ne 12, 3) := by decide +kernel
theorem d10_firstBarred_182 : decode c10_firstBarred 182 = .ok (.aload_n 0, 1) := by decide +kernel
theorem d10_firstBarred_183 : decode c10_firstBarred 183 = .ok (.getfield 81, 3) := by decide +kernel
theorem d10_firstBarred_186 : decode c10_firstBarred 186 = .ok (.iload_n 3, 1) := by decide +kernel
theorem d10_firstBarred_187 : decode c10_firstBarred 187 = .ok (.baload, 1) := by decide +kernel
theorem d10_firstBarred_188 : decode c10_firstBarred 188 = .ok (.ifCond .eq 7, 3) := by decide +kernel
theorem d10_firstBarred_191 : decode c10_firstBarred 191 = .ok (.iconst 1, 1) := by decide +kernel
theorem d10_firstBarred_192 : decode c10_firstBarred 192 = .ok (.goto 4, 3) := by decide +kernel
theorem d10_firstBarred_195 : decode c10_firstBarred 195 = .ok (.iconst 0, 1) := by decide +kernel
theorem d10_firstBarred_196 : decode c10_firstBarred 196 = .ok (.istore_n 2, 1) := by decide +kernel
theorem d10_firstBarred_197 : decode c10_firstBarred 197 = .ok (.iinc 3 1, 3) := by decide +kernel
theorem d10_firstBarred_200 : decode c10_firstBarred 200 = .ok (.goto (-136), 3) := by decide +kernel
theorem d10_firstBarred_203 : decode c10_firstBarred 203 = .ok (.iload_n 2, 1) := by decide +kernel
theorem d10_firstBarred_204 : decode c10_firstBarred 204 = .ok (.ifCond .ne 5, 3) := by decide +kernel
theorem d10_firstBarred_207 : decode c10_firstBarred 207 = .ok (.iload_n 1, 1) := by decide +kernel
theorem d10_firstBarred_208 : decode c10_firstBarred 208 = .ok (.ireturn, 1) := by decide +kernel
theorem d10_firstBarred_209 : decode c10_firstBarred 209 = .ok (.iinc 1 1, 3) := by decide +kernel
theorem d10_firstBarred_212 : decode c10_firstBarred 212 = .ok (.goto (-169), 3) := by decide +kernel
theorem d10_firstBarred_215 : decode c10_firstBarred 215 = .ok (.bipush (-2), 2) := by decide +kernel
theorem d10_firstBarred_217 : decode c10_firstBarred 217 = .ok (.ireturn, 1) := by decide +kernel
def t10_firstBarred (l : Launch) (Po : ri_O) : List ri_S := [i_al 1 0,
  i_con 2 0,
  i_put 3 10 35 ri_isI,
  i_con 4 0,
  i_is 5 1,
  i_il 6 1,
  i_al 7 0,
  i_get 8 10 19,
  i_con 9 0,
  i_ald 10 0,
  i_icmp 11 18 (fun x y => y ≤ x),
  i_al 12 0,
  i_get 13 10 25,
  i_il 14 1,
  i_con 15 1,
  i_ast 16 1 (fun x => vp_nar .boolean x),
  i_inc 17 1 1,
  i_goto 5,
  i_al 19 0,
  i_get 20 10 19,
  i_con 21 0,
  i_ald 22 0,
  i_if 23 25 (fun x => ¬ x = 0),
  i_con 24 0,
  i_ret Po 0 0,
  i_con 26 1,
  i_is 27 1,
  i_il 28 1,
  i_al 29 0,
  i_get 30 10 7,
  i_icmp 31 126 (fun x y => y ≤ x),
  i_con 32 0,
  i_is 33 2,
  i_al 34 0,
  i_con 35 0,
  i_put 36 10 35 ri_isI,
  i_con 37 400,
  i_il 38 1,
  i_bin 39 (fun x y => x * y),
  i_is 40 3,
  i_il 41 3,
  i_con 42 400,
  i_il 43 1,
  i_bin 44 (fun x y => x * y),
  i_al 45 0,
  i_get 46 10 19,
  i_il 47 1,
  i_ald 48 0,
  i_bin 49 (fun x y => x + y),
  i_icmp 50 120 (fun x y => y ≤ x),
  i_al 51 0,
  i_get 52 10 25,
  i_il 53 3,
  i_con 54 0,
  i_ast 55 1 (fun x => vp_nar .boolean x),
  i_con 56 400,
  i_il 57 1,
  i_con 58 1,
  i_bin 59 (fun x y => x - y),
  i_bin 60 (fun x y => x * y),
  i_is 61 4,
  i_il 62 4,
  i_con 63 400,
  i_il 64 1,
  i_con 65 1,
  i_bin 66 (fun x y => x - y),
  i_bin 67 (fun x y => x * y),
  i_al 68 0,
  i_get 69 10 19,
  i_il 70 1,
  i_con 71 1,
  i_bin 72 (fun x y => x - y),
  i_ald 73 0,
  i_bin 74 (fun x y => x + y),
  i_icmp 75 107 (fun x y => y ≤ x),
  i_al 76 0,
  i_get 77 10 25,
  i_il 78 4,
  i_ald 79 1,
  i_if 80 105 (fun x => x = 0),
  i_al 81 0,
  i_il 82 4,
  i_il 83 3,
  i_callV 84 3 10 (ri_Ev l y10_barsStep w10_barsStep r10_barsStep 0 0) 0 0 0 0,
  i_is 85 5,
  i_al 86 0,
  i_al 87 0,
  i_get 88 10 35,
  i_il 89 5,
  i_bin 90 (fun x y => x ||| y),
  i_put 91 10 35 ri_isI,
  i_al 92 0,
  i_get 93 10 25,
  i_il 94 3,
  i_al 95 0,
  i_get 96 10 25,
  i_il 97 3,
  i_ald 98 1,
  i_if 99 101 (fun x => ¬ x = 0),
  i_il 100 5,
  i_if 101 103 (fun x => ¬ x = 0),
  i_con 102 1,
  i_goto 104,
  i_con 104 0,
  i_ast 105 1 (fun x => vp_nar .boolean x),
  i_inc 106 4 1,
  i_goto 61,
  i_il 108 2,
  i_if 109 114 (fun x => ¬ x = 0),
  i_al 110 0,
  i_get 111 10 25,
  i_il 112 3,
  i_ald 113 1,
  i_if 114 116 (fun x => x = 0),
  i_con 115 1,
  i_goto 117,
  i_con 117 0,
  i_is 118 2,
  i_inc 119 3 1,
  i_goto 40,
  i_il 121 2,
  i_if 122 124 (fun x => ¬ x = 0),
  i_il 123 1,
  i_ret Po 0 0,
  i_inc 125 1 1,
  i_goto 27,
  i_con 127 (-2),
  i_ret Po 0 0]
set_option maxRecDepth 20000 in
set_option maxHeartbeats 4000000 in
theorem z10_firstBarred (l : Launch) (Po : ri_O) (p : Program) (e : Env) (s : State) (m : MethodId) (args : Array Value) (below : List Frame) (meth : Method) (c : Code) (D : va_G) (ka : Nat → ClassId) (sa : Nat → Nat) (base : Nat) (X : ri_X p s m args c c10_firstBarred 6 w10_firstBarred "ChoraleSearchModel" D ka sa base) (hret : meth.sig.returnType = (some .int)) (hlocks : meth.locks = false) (hname : meth.name = "firstBarred") : ri_clo (ri_W p l e r10_firstBarred s m args below meth c D ka sa base 6 (MQ below (ri_Qc D ka sa base Po) args s 0 0 (fun q => base ≤ q)) p10_firstBarred) (t10_firstBarred l Po) := by
  refine ri_clo_of ?_
  unfold t10_firstBarred
  exact ⟨s_aload_n X d10_firstBarred_0 rfl rfl,
    s_iconst X d10_firstBarred_1 rfl rfl,
    s_put X (ci := 10) (f := 35) rfl (fun w h => List.mem_cons_of_mem _ (uC_10 w h)) (by decide) tC_10 oC_10 nC_10 rfl ri_ok_int (List.mem_cons_of_mem _ mgw_849) d10_firstBarred_2 rfl,
    s_iconst X d10_firstBarred_5 rfl rfl,
    s_istore_n X d10_firstBarred_6 rfl (by decide) rfl,
    s_iload_n X d10_firstBarred_7 rfl rfl,
    s_aload_n X d10_firstBarred_8 rfl rfl,
    s_get X (ci := 10) (f := 19) rfl (fun w h => List.mem_cons_of_mem _ (uC_10 w h)) (by decide) (List.mem_cons_of_mem _ mgw_833) d10_firstBarred_9 rfl,
    s_iconst X d10_firstBarred_12 rfl rfl,
    s_iald X rfl d10_firstBarred_13 rfl,
    s_icmp_ge X d10_firstBarred_14 rfl rfl,
    s_aload_n X d10_firstBarred_17 rfl rfl,
    s_get X (ci := 10) (f := 25) rfl (fun w h => List.mem_cons_of_mem _ (uC_10 w h)) (by decide) (List.mem_cons_of_mem _ mgw_839) d10_firstBarred_18 rfl,
    s_iload_n X d10_firstBarred_21 rfl rfl,
    s_iconst X d10_firstBarred_22 rfl rfl,
    s_zast X rfl d10_firstBarred_23 rfl,
    s_iinc X d10_firstBarred_24 rfl (by decide) rfl,
    s_goto X d10_firstBarred_27 rfl,
    s_aload_n X d10_firstBarred_30 rfl rfl,
    s_get X (ci := 10) (f := 19) rfl (fun w h => List.mem_cons_of_mem _ (uC_10 w h)) (by decide) (List.mem_cons_of_mem _ mgw_833) d10_firstBarred_31 rfl,
    s_iconst X d10_firstBarred_34 rfl rfl,
    s_iald X rfl d10_firstBarred_35 rfl,
    s_if_ne X d10_firstBarred_36 rfl rfl,
    s_iconst X d10_firstBarred_39 rfl rfl,
    s_iret X hret hlocks d10_firstBarred_40,
    s_iconst X d10_firstBarred_41 rfl rfl,
    s_istore_n X d10_firstBarred_42 rfl (by decide) rfl,
    s_iload_n X d10_firstBarred_43 rfl rfl,
    s_aload_n X d10_firstBarred_44 rfl rfl,
    s_get X (ci := 10) (f := 7) rfl (fun w h => List.mem_cons_of_mem _ (uC_10 w h)) (by decide) (List.mem_cons_of_mem _ mgw_821) d10_firstBarred_45 rfl,
    s_icmp_ge X d10_firstBarred_48 rfl rfl,
    s_iconst X d10_firstBarred_51 rfl rfl,
    s_istore_n X d10_firstBarred_52 rfl (by decide) rfl,
    s_aload_n X d10_firstBarred_53 rfl rfl,
    s_iconst X d10_firstBarred_54 rfl rfl,
    s_put X (ci := 10) (f := 35) rfl (fun w h => List.mem_cons_of_mem _ (uC_10 w h)) (by decide) tC_10 oC_10 nC_10 rfl ri_ok_int (List.mem_cons_of_mem _ mgw_849) d10_firstBarred_55 rfl,
    s_sipush X d10_firstBarred_58 rfl rfl,
    s_iload_n X d10_firstBarred_61 rfl rfl,
    s_imul X d10_firstBarred_62 rfl,
    s_istore_n X d10_firstBarred_63 rfl (by decide) rfl,
    s_iload_n X d10_firstBarred_64 rfl rfl,
    s_sipush X d10_firstBarred_65 rfl rfl,
    s_iload_n X d10_firstBarred_68 rfl rfl,
    s_imul X d10_firstBarred_69 rfl,
    s_aload_n X d10_firstBarred_70 rfl rfl,
    s_get X (ci := 10) (f := 19) rfl (fun w h => List.mem_cons_of_mem _ (uC_10 w h)) (by decide) (List.mem_cons_of_mem _ mgw_833) d10_firstBarred_71 rfl,
    s_iload_n X d10_firstBarred_74 rfl rfl,
    s_iald X rfl d10_firstBarred_75 rfl,
    s_iadd X d10_firstBarred_76 rfl,
    s_icmp_ge X d10_firstBarred_77 rfl rfl,
    s_aload_n X d10_firstBarred_80 rfl rfl,
    s_get X (ci := 10) (f := 25) rfl (fun w h => List.mem_cons_of_mem _ (uC_10 w h)) (by decide) (List.mem_cons_of_mem _ mgw_839) d10_firstBarred_81 rfl,
    s_iload_n X d10_firstBarred_84 rfl rfl,
    s_iconst X d10_firstBarred_85 rfl rfl,
    s_zast X rfl d10_firstBarred_86 rfl,
    s_sipush X d10_firstBarred_87 rfl rfl,
    s_iload_n X d10_firstBarred_90 rfl rfl,
    s_iconst X d10_firstBarred_91 rfl rfl,
    s_isub X d10_firstBarred_92 rfl,
    s_imul X d10_firstBarred_93 rfl,
    s_istore X d10_firstBarred_94 (by decide) rfl,
    s_iload X d10_firstBarred_96 rfl,
    s_sipush X d10_firstBarred_98 rfl rfl,
    s_iload_n X d10_firstBarred_101 rfl rfl,
    s_iconst X d10_firstBarred_102 rfl rfl,
    s_isub X d10_firstBarred_103 rfl,
    s_imul X d10_firstBarred_104 rfl,
    s_aload_n X d10_firstBarred_105 rfl rfl,
    s_get X (ci := 10) (f := 19) rfl (fun w h => List.mem_cons_of_mem _ (uC_10 w h)) (by decide) (List.mem_cons_of_mem _ mgw_833) d10_firstBarred_106 rfl,
    s_iload_n X d10_firstBarred_109 rfl rfl,
    s_iconst X d10_firstBarred_110 rfl rfl,
    s_isub X d10_firstBarred_111 rfl,
    s_iald X rfl d10_firstBarred_112 rfl,
    s_iadd X d10_firstBarred_113 rfl,
    s_icmp_ge X d10_firstBarred_114 rfl rfl,
    s_aload_n X d10_firstBarred_117 rfl rfl,
    s_get X (ci := 10) (f := 25) rfl (fun w h => List.mem_cons_of_mem _ (uC_10 w h)) (by decide) (List.mem_cons_of_mem _ mgw_839) d10_firstBarred_118 rfl,
    s_iload X d10_firstBarred_121 rfl,
    s_zald X rfl d10_firstBarred_123 rfl,
    s_if_eq X d10_firstBarred_124 rfl rfl,
    s_aload_n X d10_firstBarred_127 rfl rfl,
    s_iload X d10_firstBarred_128 rfl,
    s_iload_n X d10_firstBarred_130 rfl rfl,
    s_callV ri_NW_ok X (na := 2) (ci := 10) rfl ⟨ri_cB X 2 mgw_1049 (List.mem_cons_of_mem _ mgw_12) (List.mem_cons_of_mem _ mgw_1046) (by decide +kernel) rfl rfl ⟨by decide, by decide⟩, X.2.2.2.2.1 _ (List.mem_cons_of_mem _ mgw_1048), X.2.2.2.2.1 _ (List.mem_cons_of_mem _ mgp_91)⟩ d10_firstBarred_131 rfl,
    s_istore X d10_firstBarred_134 (by decide) rfl,
    s_aload_n X d10_firstBarred_136 rfl rfl,
    s_aload_n X d10_firstBarred_137 rfl rfl,
    s_get X (ci := 10) (f := 35) rfl (fun w h => List.mem_cons_of_mem _ (uC_10 w h)) (by decide) (List.mem_cons_of_mem _ mgw_849) d10_firstBarred_138 rfl,
    s_iload X d10_firstBarred_141 rfl,
    s_ior X d10_firstBarred_143 rfl,
    s_put X (ci := 10) (f := 35) rfl (fun w h => List.mem_cons_of_mem _ (uC_10 w h)) (by decide) tC_10 oC_10 nC_10 rfl ri_ok_int (List.mem_cons_of_mem _ mgw_849) d10_firstBarred_144 rfl,
    s_aload_n X d10_firstBarred_147 rfl rfl,
    s_get X (ci := 10) (f := 25) rfl (fun w h => List.mem_cons_of_mem _ (uC_10 w h)) (by decide) (List.mem_cons_of_mem _ mgw_839) d10_firstBarred_148 rfl,
    s_iload_n X d10_firstBarred_151 rfl rfl,
    s_aload_n X d10_firstBarred_152 rfl rfl,
    s_get X (ci := 10) (f := 25) rfl (fun w h => List.mem_cons_of_mem _ (uC_10 w h)) (by decide) (List.mem_cons_of_mem _ mgw_839) d10_firstBarred_153 rfl,
    s_iload_n X d10_firstBarred_156 rfl rfl,
    s_zald X rfl d10_firstBarred_157 rfl,
    s_if_ne X d10_firstBarred_158 rfl rfl,
    s_iload X d10_firstBarred_161 rfl,
    s_if_ne X d10_firstBarred_163 rfl rfl,
    s_iconst X d10_firstBarred_166 rfl rfl,
    s_goto X d10_firstBarred_167 rfl,
    s_iconst X d10_firstBarred_170 rfl rfl,
    s_zast X rfl d10_firstBarred_171 rfl,
    s_iinc X d10_firstBarred_172 rfl (by decide) rfl,
    s_goto X d10_firstBarred_175 rfl,
    s_iload_n X d10_firstBarred_178 rfl rfl,
    s_if_ne X d10_firstBarred_179 rfl rfl,
    s_aload_n X d10_firstBarred_182 rfl rfl,
    s_get X (ci := 10) (f := 25) rfl (fun w h => List.mem_cons_of_mem _ (uC_10 w h)) (by decide) (List.mem_cons_of_mem _ mgw_839) d10_firstBarred_183 rfl,
    s_iload_n X d10_firstBarred_186 rfl rfl,
    s_zald X rfl d10_firstBarred_187 rfl,
    s_if_eq X d10_firstBarred_188 rfl rfl,
    s_iconst X d10_firstBarred_191 rfl rfl,
    s_goto X d10_firstBarred_192 rfl,
    s_iconst X d10_firstBarred_195 rfl rfl,
    s_istore_n X d10_firstBarred_196 rfl (by decide) rfl,
    s_iinc X d10_firstBarred_197 rfl (by decide) rfl,
    s_goto X d10_firstBarred_200 rfl,
    s_iload_n X d10_firstBarred_203 rfl rfl,
    s_if_ne X d10_firstBarred_204 rfl rfl,
    s_iload_n X d10_firstBarred_207 rfl rfl,
    s_iret X hret hlocks d10_firstBarred_208,
    s_iinc X d10_firstBarred_209 rfl (by decide) rfl,
    s_goto X d10_firstBarred_212 rfl,
    s_bipush X d10_firstBarred_215 rfl rfl,
    s_iret X hret hlocks d10_firstBarred_217, trivial⟩
theorem d10_repair_0 : decode c10_repair 0 = .ok (.aload_n 0, 1) := by decide +kernel
theorem d10_repair_1 : decode c10_repair 1 = .ok (.iconst 0, 1) := by decide +kernel
theorem d10_repair_2 : decode c10_repair 2 = .ok (.putfield 1, 3) := by decide +kernel
theorem d10_repair_5 : decode c10_repair 5 = .ok (.aload_n 0, 1) := by decide +kernel
theorem d10_repair_6 : decode c10_repair 6 = .ok (.invokevirtual 210, 3) := by decide +kernel
theorem d10_repair_9 : decode c10_repair 9 = .ok (.ifCond .ne 6, 3) := by decide +kernel
theorem d10_repair_12 : decode c10_repair 12 = .ok (.bipush (-3), 2) := by decide +kernel
theorem d10_repair_14 : decode c10_repair 14 = .ok (.ireturn, 1) := by decide +kernel
theorem d10_repair_15 : decode c10_repair 15 = .ok (.aload_n 0, 1) := by decide +kernel
theorem d10_repair_16 : decode c10_repair 16 = .ok (.invokevirtual 231, 3) := by decide +kernel
theorem d10_repair_19 : decode c10_repair 19 = .ok (.ifCond .ge 5, 3) := by decide +kernel
theorem d10_repair_22 : decode c10_repair 22 = .ok (.iconst (-1), 1) := by decide +kernel
theorem d10_repair_23 : decode c10_repair 23 = .ok (.ireturn, 1) := by decide +kernel
theorem d10_repair_24 : decode c10_repair 24 = .ok (.iconst 0, 1) := by decide +kernel
theorem d10_repair_25 : decode c10_repair 25 = .ok (.istore_n 1, 1) := by decide +kernel
theorem d10_repair_26 : decode c10_repair 26 = .ok (.iload_n 1, 1) := by decide +kernel
theorem d10_repair_27 : decode c10_repair 27 = .ok (.iconst 4, 1) := by decide +kernel
theorem d10_repair_28 : decode c10_repair 28 = .ok (.aload_n 0, 1) := by decide +kernel
theorem d10_repair_29 : decode c10_repair 29 = .ok (.getfield 26, 3) := by decide +kernel
theorem d10_repair_32 : decode c10_repair 32 = .ok (.imul, 1) := by decide +kernel
theorem d10_repair_33 : decode c10_repair 33 = .ok (.if_icmp .ge 79, 3) := by decide +kernel
theorem d10_repair_36 : decode c10_repair 36 = .ok (.aload_n 0, 1) := by decide +kernel
theorem d10_repair_37 : decode c10_repair 37 = .ok (.getfield 29, 3) := by decide +kernel
theorem d10_repair_40 : decode c10_repair 40 = .ok (.iload_n 1, 1) := by decide +kernel
theorem d10_repair_41 : decode c10_repair 41 = .ok (.iaload, 1) := by decide +kernel
theorem d10_repair_42 : decode c10_repair 42 = .ok (.bipush (-2), 2) := by decide +kernel
theorem d10_repair_44 : decode c10_repair 44 = .ok (.if_icmp .eq 62, 3) := by decide +kernel
theorem d10_repair_47 : decode c10_repair 47 = .ok (.aload_n 0, 1) := by decide +kernel
theorem d10_repair_48 : decode c10_repair 48 = .ok (.getfield 29, 3) := by decide +kernel
theorem d10_repair_51 : decode c10_repair 51 = .ok (.iload_n 1, 1) := by decide +kernel
theorem d10_repair_52 : decode c10_repair 52 = .ok (.iaload, 1) := by decide +kernel
theorem d10_repair_53 : decode c10_repair 53 = .ok (.istore_n 2, 1) := by decide +kernel
theorem d10_repair_54 : decode c10_repair 54 = .ok (.aload_n 0, 1) := by decide +kernel
theorem d10_repair_55 : decode c10_repair 55 = .ok (.getfield 29, 3) := by decide +kernel
theorem d10_repair_58 : decode c10_repair 58 = .ok (.iload_n 1, 1) := by decide +kernel
theorem d10_repair_59 : decode c10_repair 59 = .ok (.bipush (-2), 2) := by decide +kernel
theorem d10_repair_61 : decode c10_repair 61 = .ok (.iastore, 1) := by decide +kernel
theorem d10_repair_62 : decode c10_repair 62 = .ok (.aload_n 0, 1) := by decide +kernel
theorem d10_repair_63 : decode c10_repair 63 = .ok (.invokevirtual 210, 3) := by decide +kernel
theorem d10_repair_66 : decode c10_repair 66 = .ok (.istore_n 3, 1) := by decide +kernel
theorem d10_repair_67 : decode c10_repair 67 = .ok (.iload_n 3, 1) := by decide +kernel
theorem d10_repair_68 : decode c10_repair 68 = .ok (.ifCond .eq 14, 3) := by decide +kernel
theorem d10_repair_71 : decode c10_repair 71 = .ok (.aload_n 0, 1) := by decide +kernel
theorem d10_repair_72 : decode c10_repair 72 = .ok (.invokevirtual 231, 3) := by decide +kernel
theorem d10_repair_75 : decode c10_repair 75 = .ok (.ifCond .ge 7, 3) := by decide +kernel
theorem d10_repair_78 : decode c10_repair 78 = .ok (.iconst 1, 1) := by decide +kernel
theorem d10_repair_79 : decode c10_repair 79 = .ok (.goto 4, 3) := by decide +kernel
theorem d10_repair_82 : decode c10_repair 82 = .ok (.iconst 0, 1) := by decide +kernel
theorem d10_repair_83 : decode c10_repair 83 = .ok (.istore 4, 2) := by decide +kernel
theorem d10_repair_85 : decode c10_repair 85 = .ok (.aload_n 0, 1) := by decide +kernel
theorem d10_repair_86 : decode c10_repair 86 = .ok (.getfield 29, 3) := by decide +kernel
theorem d10_repair_89 : decode c10_repair 89 = .ok (.iload_n 1, 1) := by decide +kernel
theorem d10_repair_90 : decode c10_repair 90 = .ok (.iload_n 2, 1) := by decide +kernel
theorem d10_repair_91 : decode c10_repair 91 = .ok (.iastore, 1) := by decide +kernel
theorem d10_repair_92 : decode c10_repair 92 = .ok (.iload_n 3, 1) := by decide +kernel
theorem d10_repair_93 : decode c10_repair 93 = .ok (.ifCond .ne 6, 3) := by decide +kernel
theorem d10_repair_96 : decode c10_repair 96 = .ok (.bipush (-3), 2) := by decide +kernel
theorem d10_repair_98 : decode c10_repair 98 = .ok (.ireturn, 1) := by decide +kernel
theorem d10_repair_99 : decode c10_repair 99 = .ok (.iload 4, 2) := by decide +kernel
theorem d10_repair_101 : decode c10_repair 101 = .ok (.ifCond .eq 5, 3) := by decide +kernel
theorem d10_repair_104 : decode c10_repair 104 = .ok (.iload_n 1, 1) := by decide +kernel
theorem d10_repair_105 : decode c10_repair 105 = .ok (.ireturn, 1) := by decide +kernel
theorem d10_repair_106 : decode c10_repair 106 = .ok (.iinc 1 1, 3) := by decide +kernel
theorem d10_repair_109 : decode c10_repair 109 = .ok (.goto (-83), 3) := by decide +kernel
theorem d10_repair_112 : decode c10_repair 112 = .ok (.bipush (-2), 2) := by decide +kernel
theorem d10_repair_114 : decode c10_repair 114 = .ok (.ireturn, 1) := by decide +kernel
def t10_repair (l : Launch) (Po : ri_O) : List ri_S := [i_al 1 0,
  i_con 2 0,
  i_put 3 10 0 ri_isI,
  i_al 4 0,
  i_callV 5 1 10 (ri_Ev l y10_findAll w10_findAll r10_findAll 0 0) 0 0 0 0,
  i_if 6 8 (fun x => ¬ x = 0),
  i_con 7 (-3),
  i_ret Po 0 0,
  i_al 9 0,
  i_callV 10 1 10 (ri_Ev l y10_firstBarred w10_firstBarred r10_firstBarred 0 0) 0 0 0 0,
  i_if 11 13 (fun x => 0 ≤ x),
  i_con 12 (-1),
  i_ret Po 0 0,
  i_con 14 0,
  i_is 15 1,
  i_il 16 1,
  i_con 17 4,
  i_al 18 0,
  i_get 19 10 7,
  i_bin 20 (fun x y => x * y),
  i_icmp 21 64 (fun x y => y ≤ x),
  i_al 22 0,
  i_get 23 10 8,
  i_il 24 1,
  i_ald 25 0,
  i_con 26 (-2),
  i_icmp 27 62 (fun x y => x = y),
  i_al 28 0,
  i_get 29 10 8,
  i_il 30 1,
  i_ald 31 0,
  i_is 32 2,
  i_al 33 0,
  i_get 34 10 8,
  i_il 35 1,
  i_con 36 (-2),
  i_ast 37 0 (fun x => x),
  i_al 38 0,
  i_callV 39 1 10 (ri_Ev l y10_findAll w10_findAll r10_findAll 0 0) 0 0 0 0,
  i_is 40 3,
  i_il 41 3,
  i_if 42 47 (fun x => x = 0),
  i_al 43 0,
  i_callV 44 1 10 (ri_Ev l y10_firstBarred w10_firstBarred r10_firstBarred 0 0) 0 0 0 0,
  i_if 45 47 (fun x => 0 ≤ x),
  i_con 46 1,
  i_goto 48,
  i_con 48 0,
  i_is 49 4,
  i_al 50 0,
  i_get 51 10 8,
  i_il 52 1,
  i_il 53 2,
  i_ast 54 0 (fun x => x),
  i_il 55 3,
  i_if 56 58 (fun x => ¬ x = 0),
  i_con 57 (-3),
  i_ret Po 0 0,
  i_il 59 4,
  i_if 60 62 (fun x => x = 0),
  i_il 61 1,
  i_ret Po 0 0,
  i_inc 63 1 1,
  i_goto 15,
  i_con 65 (-2),
  i_ret Po 0 0]
set_option maxRecDepth 20000 in
set_option maxHeartbeats 4000000 in
theorem z10_repair (l : Launch) (Po : ri_O) (p : Program) (e : Env) (s : State) (m : MethodId) (args : Array Value) (below : List Frame) (meth : Method) (c : Code) (D : va_G) (ka : Nat → ClassId) (sa : Nat → Nat) (base : Nat) (X : ri_X p s m args c c10_repair 5 w10_repair "ChoraleSearchModel" D ka sa base) (hret : meth.sig.returnType = (some .int)) (hlocks : meth.locks = false) (hname : meth.name = "repair") : ri_clo (ri_W p l e r10_repair s m args below meth c D ka sa base 5 (MQ below (ri_Qc D ka sa base Po) args s 0 0 (fun q => base ≤ q)) p10_repair) (t10_repair l Po) := by
  refine ri_clo_of ?_
  unfold t10_repair
  exact ⟨s_aload_n X d10_repair_0 rfl rfl,
    s_iconst X d10_repair_1 rfl rfl,
    s_put X (ci := 10) (f := 0) rfl (fun w h => List.mem_cons_of_mem _ (uC_10 w h)) (by decide) tC_10 oC_10 nC_10 rfl ri_ok_int (List.mem_cons_of_mem _ mgw_814) d10_repair_2 rfl,
    s_aload_n X d10_repair_5 rfl rfl,
    s_callV ri_NW_ok X (na := 0) (ci := 10) rfl ⟨ri_cB X 0 mgw_1033 (List.mem_cons_of_mem _ mgw_12) (List.mem_cons_of_mem _ mgw_1030) (by decide +kernel) rfl rfl ⟨by decide, by decide⟩, X.2.2.2.2.1 _ (List.mem_cons_of_mem _ mgw_1032), X.2.2.2.2.1 _ (List.mem_cons_of_mem _ mgp_87)⟩ d10_repair_6 rfl,
    s_if_ne X d10_repair_9 rfl rfl,
    s_bipush X d10_repair_12 rfl rfl,
    s_iret X hret hlocks d10_repair_14,
    s_aload_n X d10_repair_15 rfl rfl,
    s_callV ri_NW_ok X (na := 0) (ci := 10) rfl ⟨ri_cB X 0 mgw_1102 (List.mem_cons_of_mem _ mgw_12) (List.mem_cons_of_mem _ mgw_1099) (by decide +kernel) rfl rfl ⟨by decide, by decide⟩, X.2.2.2.2.1 _ (List.mem_cons_of_mem _ mgw_1101), X.2.2.2.2.1 _ (List.mem_cons_of_mem _ mgp_96)⟩ d10_repair_16 rfl,
    s_if_ge X d10_repair_19 rfl rfl,
    s_iconst X d10_repair_22 rfl rfl,
    s_iret X hret hlocks d10_repair_23,
    s_iconst X d10_repair_24 rfl rfl,
    s_istore_n X d10_repair_25 rfl (by decide) rfl,
    s_iload_n X d10_repair_26 rfl rfl,
    s_iconst X d10_repair_27 rfl rfl,
    s_aload_n X d10_repair_28 rfl rfl,
    s_get X (ci := 10) (f := 7) rfl (fun w h => List.mem_cons_of_mem _ (uC_10 w h)) (by decide) (List.mem_cons_of_mem _ mgw_821) d10_repair_29 rfl,
    s_imul X d10_repair_32 rfl,
    s_icmp_ge X d10_repair_33 rfl rfl,
    s_aload_n X d10_repair_36 rfl rfl,
    s_get X (ci := 10) (f := 8) rfl (fun w h => List.mem_cons_of_mem _ (uC_10 w h)) (by decide) (List.mem_cons_of_mem _ mgw_822) d10_repair_37 rfl,
    s_iload_n X d10_repair_40 rfl rfl,
    s_iald X rfl d10_repair_41 rfl,
    s_bipush X d10_repair_42 rfl rfl,
    s_icmp_eq X d10_repair_44 rfl rfl,
    s_aload_n X d10_repair_47 rfl rfl,
    s_get X (ci := 10) (f := 8) rfl (fun w h => List.mem_cons_of_mem _ (uC_10 w h)) (by decide) (List.mem_cons_of_mem _ mgw_822) d10_repair_48 rfl,
    s_iload_n X d10_repair_51 rfl rfl,
    s_iald X rfl d10_repair_52 rfl,
    s_istore_n X d10_repair_53 rfl (by decide) rfl,
    s_aload_n X d10_repair_54 rfl rfl,
    s_get X (ci := 10) (f := 8) rfl (fun w h => List.mem_cons_of_mem _ (uC_10 w h)) (by decide) (List.mem_cons_of_mem _ mgw_822) d10_repair_55 rfl,
    s_iload_n X d10_repair_58 rfl rfl,
    s_bipush X d10_repair_59 rfl rfl,
    s_iast X rfl d10_repair_61 rfl,
    s_aload_n X d10_repair_62 rfl rfl,
    s_callV ri_NW_ok X (na := 0) (ci := 10) rfl ⟨ri_cB X 0 mgw_1033 (List.mem_cons_of_mem _ mgw_12) (List.mem_cons_of_mem _ mgw_1030) (by decide +kernel) rfl rfl ⟨by decide, by decide⟩, X.2.2.2.2.1 _ (List.mem_cons_of_mem _ mgw_1032), X.2.2.2.2.1 _ (List.mem_cons_of_mem _ mgp_87)⟩ d10_repair_63 rfl,
    s_istore_n X d10_repair_66 rfl (by decide) rfl,
    s_iload_n X d10_repair_67 rfl rfl,
    s_if_eq X d10_repair_68 rfl rfl,
    s_aload_n X d10_repair_71 rfl rfl,
    s_callV ri_NW_ok X (na := 0) (ci := 10) rfl ⟨ri_cB X 0 mgw_1102 (List.mem_cons_of_mem _ mgw_12) (List.mem_cons_of_mem _ mgw_1099) (by decide +kernel) rfl rfl ⟨by decide, by decide⟩, X.2.2.2.2.1 _ (List.mem_cons_of_mem _ mgw_1101), X.2.2.2.2.1 _ (List.mem_cons_of_mem _ mgp_96)⟩ d10_repair_72 rfl,
    s_if_ge X d10_repair_75 rfl rfl,
    s_iconst X d10_repair_78 rfl rfl,
    s_goto X d10_repair_79 rfl,
    s_iconst X d10_repair_82 rfl rfl,
    s_istore X d10_repair_83 (by decide) rfl,
    s_aload_n X d10_repair_85 rfl rfl,
    s_get X (ci := 10) (f := 8) rfl (fun w h => List.mem_cons_of_mem _ (uC_10 w h)) (by decide) (List.mem_cons_of_mem _ mgw_822) d10_repair_86 rfl,
    s_iload_n X d10_repair_89 rfl rfl,
    s_iload_n X d10_repair_90 rfl rfl,
    s_iast X rfl d10_repair_91 rfl,
    s_iload_n X d10_repair_92 rfl rfl,
    s_if_ne X d10_repair_93 rfl rfl,
    s_bipush X d10_repair_96 rfl rfl,
    s_iret X hret hlocks d10_repair_98,
    s_iload X d10_repair_99 rfl,
    s_if_eq X d10_repair_101 rfl rfl,
    s_iload_n X d10_repair_104 rfl rfl,
    s_iret X hret hlocks d10_repair_105,
    s_iinc X d10_repair_106 rfl (by decide) rfl,
    s_goto X d10_repair_109 rfl,
    s_bipush X d10_repair_112 rfl rfl,
    s_iret X hret hlocks d10_repair_114, trivial⟩
theorem d10_passing_0 : decode c10_passing 0 = .ok (.aload_n 0, 1) := by decide +kernel
theorem d10_passing_1 : decode c10_passing 1 = .ok (.iconst 0, 1) := by decide +kernel
theorem d10_passing_2 : decode c10_passing 2 = .ok (.putfield 1, 3) := by decide +kernel
theorem d10_passing_5 : decode c10_passing 5 = .ok (.aload_n 0, 1) := by decide +kernel
theorem d10_passing_6 : decode c10_passing 6 = .ok (.getfield 123, 3) := by decide +kernel
theorem d10_passing_9 : decode c10_passing 9 = .ok (.ifCond .eq 31, 3) := by decide +kernel
theorem d10_passing_12 : decode c10_passing 12 = .ok (.iload_n 1, 1) := by decide +kernel
theorem d10_passing_13 : decode c10_passing 13 = .ok (.i2l, 1) := by decide +kernel
theorem d10_passing_14 : decode c10_passing 14 = .ok (.lconst 0, 1) := by decide +kernel
theorem d10_passing_15 : decode c10_passing 15 = .ok (.aload_n 0, 1) := by decide +kernel
theorem d10_passing_16 : decode c10_passing 16 = .ok (.getfield 26, 3) := by decide +kernel
theorem d10_passing_19 : decode c10_passing 19 = .ok (.iconst 2, 1) := by decide +kernel
theorem d10_passing_20 : decode c10_passing 20 = .ok (.isub, 1) := by decide +kernel
theorem d10_passing_21 : decode c10_passing 21 = .ok (.i2l, 1) := by decide +kernel
theorem d10_passing_22 : decode c10_passing 22 = .ok (.invokestatic 119, 3) := by decide +kernel
theorem d10_passing_25 : decode c10_passing 25 = .ok (.ifCond .eq 15, 3) := by decide +kernel
theorem d10_passing_28 : decode c10_passing 28 = .ok (.iload_n 2, 1) := by decide +kernel
theorem d10_passing_29 : decode c10_passing 29 = .ok (.i2l, 1) := by decide +kernel
theorem d10_passing_30 : decode c10_passing 30 = .ok (.lconst 0, 1) := by decide +kernel
theorem d10_passing_31 : decode c10_passing 31 = .ok (.ldc2_w 128, 3) := by decide +kernel
theorem d10_passing_34 : decode c10_passing 34 = .ok (.invokestatic 119, 3) := by decide +kernel
theorem d10_passing_37 : decode c10_passing 37 = .ok (.ifCond .ne 5, 3) := by decide +kernel
theorem d10_passing_40 : decode c10_passing 40 = .ok (.iconst (-1), 1) := by decide +kernel
theorem d10_passing_41 : decode c10_passing 41 = .ok (.ireturn, 1) := by decide +kernel
theorem d10_passing_42 : decode c10_passing 42 = .ok (.aload_n 0, 1) := by decide +kernel
theorem d10_passing_43 : decode c10_passing 43 = .ok (.getfield 84, 3) := by decide +kernel
theorem d10_passing_46 : decode c10_passing 46 = .ok (.iconst 4, 1) := by decide +kernel
theorem d10_passing_47 : decode c10_passing 47 = .ok (.iload_n 1, 1) := by decide +kernel
theorem d10_passing_48 : decode c10_passing 48 = .ok (.imul, 1) := by decide +kernel
theorem d10_passing_49 : decode c10_passing 49 = .ok (.iload_n 2, 1) := by decide +kernel
theorem d10_passing_50 : decode c10_passing 50 = .ok (.iadd, 1) := by decide +kernel
theorem d10_passing_51 : decode c10_passing 51 = .ok (.iaload, 1) := by decide +kernel
theorem d10_passing_52 : decode c10_passing 52 = .ok (.istore_n 3, 1) := by decide +kernel
theorem d10_passing_53 : decode c10_passing 53 = .ok (.aload_n 0, 1) := by decide +kernel
theorem d10_passing_54 : decode c10_passing 54 = .ok (.getfield 84, 3) := by decide +kernel
theorem d10_passing_57 : decode c10_passing 57 = .ok (.iconst 4, 1) := by decide +kernel
theorem d10_passing_58 : decode c10_passing 58 = .ok (.iload_n 1, 1) := by decide +kernel
theorem d10_passing_59 : decode c10_passing 59 = .ok (.imul, 1) := by decide +kernel
theorem d10_passing_60 : decode c10_passing 60 = .ok (.iconst 4, 1) := by decide +kernel
theorem d10_passing_61 : decode c10_passing 61 = .ok (.iadd, 1) := by decide +kernel
theorem d10_passing_62 : decode c10_passing 62 = .ok (.iload_n 2, 1) := by decide +kernel
theorem d10_passing_63 : decode c10_passing 63 = .ok (.iadd, 1) := by decide +kernel
theorem d10_passing_64 : decode c10_passing 64 = .ok (.iaload, 1) := by decide +kernel
theorem d10_passing_65 : decode c10_passing 65 = .ok (.istore 4, 2) := by decide +kernel
theorem d10_passing_67 : decode c10_passing 67 = .ok (.iload_n 3, 1) := by decide +kernel
theorem d10_passing_68 : decode c10_passing 68 = .ok (.iload 4, 2) := by decide +kernel
theorem d10_passing_70 : decode c10_passing 70 = .ok (.isub, 1) := by decide +kernel
theorem d10_passing_71 : decode c10_passing 71 = .ok (.invokestatic 185, 3) := by decide +kernel
theorem d10_passing_74 : decode c10_passing 74 = .ok (.istore 5, 2) := by decide +kernel
theorem d10_passing_76 : decode c10_passing 76 = .ok (.iload 5, 2) := by decide +kernel
theorem d10_passing_78 : decode c10_passing 78 = .ok (.iconst 3, 1) := by decide +kernel
theorem d10_passing_79 : decode c10_passing 79 = .ok (.if_icmp .eq 12, 3) := by decide +kernel
theorem d10_passing_82 : decode c10_passing 82 = .ok (.iload 5, 2) := by decide +kernel
theorem d10_passing_84 : decode c10_passing 84 = .ok (.iconst 4, 1) := by decide +kernel
theorem d10_passing_85 : decode c10_passing 85 = .ok (.if_icmp .eq 6, 3) := by decide +kernel
theorem d10_passing_88 : decode c10_passing 88 = .ok (.bipush (-2), 2) := by decide +kernel
theorem d10_passing_90 : decode c10_passing 90 = .ok (.ireturn, 1) := by decide +kernel
theorem d10_passing_91 : decode c10_passing 91 = .ok (.iload_n 3, 1) := by decide +kernel
theorem d10_passing_92 : decode c10_passing 92 = .ok (.iload 4, 2) := by decide +kernel
theorem d10_passing_94 : decode c10_passing 94 = .ok (.if_icmp .ge 7, 3) := by decide +kernel
theorem d10_passing_97 : decode c10_passing 97 = .ok (.iload_n 3, 1) := by decide +kernel
theorem d10_passing_98 : decode c10_passing 98 = .ok (.goto 5, 3) := by decide +kernel
theorem d10_passing_101 : decode c10_passing 101 = .ok (.iload 4, 2) := by decide +kernel
theorem d10_passing_103 : decode c10_passing 103 = .ok (.istore 6, 2) := by decide +kernel
theorem d10_passing_105 : decode c10_passing 105 = .ok (.iconst 1, 1) := by decide +kernel
theorem d10_passing_106 : decode c10_passing 106 = .ok (.istore 7, 2) := by decide +kernel
theorem d10_passing_108 : decode c10_passing 108 = .ok (.iload 7, 2) := by decide +kernel
theorem d10_passing_110 : decode c10_passing 110 = .ok (.iconst 2, 1) := by decide +kernel
theorem d10_passing_111 : decode c10_passing 111 = .ok (.if_icmp .gt 54, 3) := by decide +kernel
theorem d10_passing_114 : decode c10_passing 114 = .ok (.aload_n 0, 1) := by decide +kernel
theorem d10_passing_115 : decode c10_passing 115 = .ok (.iload 6, 2) := by decide +kernel
theorem d10_passing_117 : decode c10_passing 117 = .ok (.iload 7, 2) := by decide +kernel
theorem d10_passing_119 : decode c10_passing 119 = .ok (.iadd, 1) := by decide +kernel
theorem d10_passing_120 : decode c10_passing 120 = .ok (.invokevirtual 109, 3) := by decide +kernel
theorem d10_passing_123 : decode c10_passing 123 = .ok (.istore 8, 2) := by decide +kernel
theorem d10_passing_125 : decode c10_passing 125 = .ok (.aload_n 0, 1) := by decide +kernel
theorem d10_passing_126 : decode c10_passing 126 = .ok (.getfield 102, 3) := by decide +kernel
theorem d10_passing_129 : decode c10_passing 129 = .ok (.ifCond .eq 13, 3) := by decide +kernel
theorem d10_passing_132 : decode c10_passing 132 = .ok (.aload_n 0, 1) := by decide +kernel
theorem d10_passing_133 : decode c10_passing 133 = .ok (.getfield 23, 3) := by decide +kernel
theorem d10_passing_136 : decode c10_passing 136 = .ok (.iload 8, 2) := by decide +kernel
theorem d10_passing_138 : decode c10_passing 138 = .ok (.iaload, 1) := by decide +kernel
theorem d10_passing_139 : decode c10_passing 139 = .ok (.goto 10, 3) := by decide +kernel
theorem d10_passing_142 : decode c10_passing 142 = .ok (.aload_n 0, 1) := by decide +kernel
theorem d10_passing_143 : decode c10_passing 143 = .ok (.getfield 20, 3) := by decide +kernel
theorem d10_passing_146 : decode c10_passing 146 = .ok (.iload 8, 2) := by decide +kernel
theorem d10_passing_148 : decode c10_passing 148 = .ok (.iaload, 1) := by decide +kernel
theorem d10_passing_149 : decode c10_passing 149 = .ok (.iconst 1, 1) := by decide +kernel
theorem d10_passing_150 : decode c10_passing 150 = .ok (.if_icmp .ne 9, 3) := by decide +kernel
theorem d10_passing_153 : decode c10_passing 153 = .ok (.iload 6, 2) := by decide +kernel
theorem d10_passing_155 : decode c10_passing 155 = .ok (.iload 7, 2) := by decide +kernel
theorem d10_passing_157 : decode c10_passing 157 = .ok (.iadd, 1) := by decide +kernel
theorem d10_passing_158 : decode c10_passing 158 = .ok (.ireturn, 1) := by decide +kernel
theorem d10_passing_159 : decode c10_passing 159 = .ok (.iinc 7 1, 3) := by decide +kernel
theorem d10_passing_162 : decode c10_passing 162 = .ok (.goto (-54), 3) := by decide +kernel
theorem d10_passing_165 : decode c10_passing 165 = .ok (.bipush (-2), 2) := by decide +kernel
theorem d10_passing_167 : decode c10_passing 167 = .ok (.ireturn, 1) := by decide +kernel
def t10_passing (l : Launch) (Po : ri_O) : List ri_S := [i_al 1 0,
  i_con 2 0,
  i_put 3 10 0 ri_isI,
  i_al 4 0,
  i_get 5 10 26,
  i_if 6 22 (fun x => x = 0),
  i_il 7 1,
  i_i2l 8,
  i_lcon 9 0,
  i_al 10 0,
  i_get 11 10 7,
  i_con 12 2,
  i_bin 13 (fun x y => x - y),
  i_i2l 14,
  i_call 15 3 (ri_Ev l y10_in w10_in r10_in 0 0) 0 0 0 0,
  i_if 16 22 (fun x => x = 0),
  i_il 17 2,
  i_i2l 18,
  i_lcon 19 0,
  i_lcon 20 3,
  i_call 21 3 (ri_Ev l y10_in w10_in r10_in 0 0) 0 0 0 0,
  i_if 22 24 (fun x => ¬ x = 0),
  i_con 23 (-1),
  i_ret Po 0 0,
  i_al 25 0,
  i_get 26 10 27,
  i_con 27 4,
  i_il 28 1,
  i_bin 29 (fun x y => x * y),
  i_il 30 2,
  i_bin 31 (fun x y => x + y),
  i_ald 32 0,
  i_is 33 3,
  i_al 34 0,
  i_get 35 10 27,
  i_con 36 4,
  i_il 37 1,
  i_bin 38 (fun x y => x * y),
  i_con 39 4,
  i_bin 40 (fun x y => x + y),
  i_il 41 2,
  i_bin 42 (fun x y => x + y),
  i_ald 43 0,
  i_is 44 4,
  i_il 45 3,
  i_il 46 4,
  i_bin 47 (fun x y => x - y),
  i_call 48 1 (ri_Ev l y10_size w10_size r10_size 0 0) 0 0 0 0,
  i_is 49 5,
  i_il 50 5,
  i_con 51 3,
  i_icmp 52 57 (fun x y => x = y),
  i_il 53 5,
  i_con 54 4,
  i_icmp 55 57 (fun x y => x = y),
  i_con 56 (-2),
  i_ret Po 0 0,
  i_il 58 3,
  i_il 59 4,
  i_icmp 60 62 (fun x y => y ≤ x),
  i_il 61 3,
  i_goto 63,
  i_il 63 4,
  i_is 64 6,
  i_con 65 1,
  i_is 66 7,
  i_il 67 7,
  i_con 68 2,
  i_icmp 69 95 (fun x y => y < x),
  i_al 70 0,
  i_il 71 6,
  i_il 72 7,
  i_bin 73 (fun x y => x + y),
  i_callV 74 2 10 (ri_Ev l y10_degreeOf w10_degreeOf r10_degreeOf 0 0) 0 0 0 0,
  i_is 75 8,
  i_al 76 0,
  i_get 77 10 6,
  i_if 78 83 (fun x => x = 0),
  i_al 79 0,
  i_get 80 10 4,
  i_il 81 8,
  i_ald 82 0,
  i_goto 87,
  i_al 84 0,
  i_get 85 10 3,
  i_il 86 8,
  i_ald 87 0,
  i_con 88 1,
  i_icmp 89 93 (fun x y => ¬ x = y),
  i_il 90 6,
  i_il 91 7,
  i_bin 92 (fun x y => x + y),
  i_ret Po 0 0,
  i_inc 94 7 1,
  i_goto 66,
  i_con 96 (-2),
  i_ret Po 0 0]
set_option maxRecDepth 20000 in
set_option maxHeartbeats 4000000 in
theorem z10_passing (l : Launch) (Po : ri_O) (p : Program) (e : Env) (s : State) (m : MethodId) (args : Array Value) (below : List Frame) (meth : Method) (c : Code) (D : va_G) (ka : Nat → ClassId) (sa : Nat → Nat) (base : Nat) (X : ri_X p s m args c c10_passing 9 w10_passing "ChoraleSearchModel" D ka sa base) (hret : meth.sig.returnType = (some .int)) (hlocks : meth.locks = false) (hname : meth.name = "passing") : ri_clo (ri_W p l e r10_passing s m args below meth c D ka sa base 9 (MQ below (ri_Qc D ka sa base Po) args s 0 0 (fun q => base ≤ q)) p10_passing) (t10_passing l Po) := by
  refine ri_clo_of ?_
  unfold t10_passing
  exact ⟨s_aload_n X d10_passing_0 rfl rfl,
    s_iconst X d10_passing_1 rfl rfl,
    s_put X (ci := 10) (f := 0) rfl (fun w h => List.mem_cons_of_mem _ (uC_10 w h)) (by decide) tC_10 oC_10 nC_10 rfl ri_ok_int (List.mem_cons_of_mem _ mgw_814) d10_passing_2 rfl,
    s_aload_n X d10_passing_5 rfl rfl,
    s_get X (ci := 10) (f := 26) rfl (fun w h => List.mem_cons_of_mem _ (uC_10 w h)) (by decide) (List.mem_cons_of_mem _ mgw_840) d10_passing_6 rfl,
    s_if_eq X d10_passing_9 rfl rfl,
    s_iload_n X d10_passing_12 rfl rfl,
    s_i2l X d10_passing_13 rfl,
    s_lconst X d10_passing_14 rfl rfl,
    s_aload_n X d10_passing_15 rfl rfl,
    s_get X (ci := 10) (f := 7) rfl (fun w h => List.mem_cons_of_mem _ (uC_10 w h)) (by decide) (List.mem_cons_of_mem _ mgw_821) d10_passing_16 rfl,
    s_iconst X d10_passing_19 rfl rfl,
    s_isub X d10_passing_20 rfl,
    s_i2l X d10_passing_21 rfl,
    s_callS ri_NW_ok X ⟨ri_cB X 3 mgw_930 (List.mem_cons_of_mem _ mgw_12) (List.mem_cons_of_mem _ mgw_928) (by decide +kernel) rfl rfl ⟨by decide, by decide⟩, X.2.2.2.2.1 _ (List.mem_cons_of_mem _ mgw_929)⟩ d10_passing_22 rfl,
    s_if_eq X d10_passing_25 rfl rfl,
    s_iload_n X d10_passing_28 rfl rfl,
    s_i2l X d10_passing_29 rfl,
    s_lconst X d10_passing_30 rfl rfl,
    s_ldc2 X d10_passing_31 (List.mem_cons_of_mem _ mgw_940) rfl,
    s_callS ri_NW_ok X ⟨ri_cB X 3 mgw_930 (List.mem_cons_of_mem _ mgw_12) (List.mem_cons_of_mem _ mgw_928) (by decide +kernel) rfl rfl ⟨by decide, by decide⟩, X.2.2.2.2.1 _ (List.mem_cons_of_mem _ mgw_929)⟩ d10_passing_34 rfl,
    s_if_ne X d10_passing_37 rfl rfl,
    s_iconst X d10_passing_40 rfl rfl,
    s_iret X hret hlocks d10_passing_41,
    s_aload_n X d10_passing_42 rfl rfl,
    s_get X (ci := 10) (f := 27) rfl (fun w h => List.mem_cons_of_mem _ (uC_10 w h)) (by decide) (List.mem_cons_of_mem _ mgw_841) d10_passing_43 rfl,
    s_iconst X d10_passing_46 rfl rfl,
    s_iload_n X d10_passing_47 rfl rfl,
    s_imul X d10_passing_48 rfl,
    s_iload_n X d10_passing_49 rfl rfl,
    s_iadd X d10_passing_50 rfl,
    s_iald X rfl d10_passing_51 rfl,
    s_istore_n X d10_passing_52 rfl (by decide) rfl,
    s_aload_n X d10_passing_53 rfl rfl,
    s_get X (ci := 10) (f := 27) rfl (fun w h => List.mem_cons_of_mem _ (uC_10 w h)) (by decide) (List.mem_cons_of_mem _ mgw_841) d10_passing_54 rfl,
    s_iconst X d10_passing_57 rfl rfl,
    s_iload_n X d10_passing_58 rfl rfl,
    s_imul X d10_passing_59 rfl,
    s_iconst X d10_passing_60 rfl rfl,
    s_iadd X d10_passing_61 rfl,
    s_iload_n X d10_passing_62 rfl rfl,
    s_iadd X d10_passing_63 rfl,
    s_iald X rfl d10_passing_64 rfl,
    s_istore X d10_passing_65 (by decide) rfl,
    s_iload_n X d10_passing_67 rfl rfl,
    s_iload X d10_passing_68 rfl,
    s_isub X d10_passing_70 rfl,
    s_callS ri_NW_ok X ⟨ri_cB X 1 mgw_1058 (List.mem_cons_of_mem _ mgw_12) (List.mem_cons_of_mem _ mgw_1056) (by decide +kernel) rfl rfl ⟨by decide, by decide⟩, X.2.2.2.2.1 _ (List.mem_cons_of_mem _ mgw_1057)⟩ d10_passing_71 rfl,
    s_istore X d10_passing_74 (by decide) rfl,
    s_iload X d10_passing_76 rfl,
    s_iconst X d10_passing_78 rfl rfl,
    s_icmp_eq X d10_passing_79 rfl rfl,
    s_iload X d10_passing_82 rfl,
    s_iconst X d10_passing_84 rfl rfl,
    s_icmp_eq X d10_passing_85 rfl rfl,
    s_bipush X d10_passing_88 rfl rfl,
    s_iret X hret hlocks d10_passing_90,
    s_iload_n X d10_passing_91 rfl rfl,
    s_iload X d10_passing_92 rfl,
    s_icmp_ge X d10_passing_94 rfl rfl,
    s_iload_n X d10_passing_97 rfl rfl,
    s_goto X d10_passing_98 rfl,
    s_iload X d10_passing_101 rfl,
    s_istore X d10_passing_103 (by decide) rfl,
    s_iconst X d10_passing_105 rfl rfl,
    s_istore X d10_passing_106 (by decide) rfl,
    s_iload X d10_passing_108 rfl,
    s_iconst X d10_passing_110 rfl rfl,
    s_icmp_gt X d10_passing_111 rfl rfl,
    s_aload_n X d10_passing_114 rfl rfl,
    s_iload X d10_passing_115 rfl,
    s_iload X d10_passing_117 rfl,
    s_iadd X d10_passing_119 rfl,
    s_callV ri_NW_ok X (na := 1) (ci := 10) rfl ⟨ri_cB X 1 mgw_1004 (List.mem_cons_of_mem _ mgw_12) (List.mem_cons_of_mem _ mgw_1001) (by decide +kernel) rfl rfl ⟨by decide, by decide⟩, X.2.2.2.2.1 _ (List.mem_cons_of_mem _ mgw_1003), X.2.2.2.2.1 _ (List.mem_cons_of_mem _ mgp_81)⟩ d10_passing_120 rfl,
    s_istore X d10_passing_123 (by decide) rfl,
    s_aload_n X d10_passing_125 rfl rfl,
    s_get X (ci := 10) (f := 6) rfl (fun w h => List.mem_cons_of_mem _ (uC_10 w h)) (by decide) (List.mem_cons_of_mem _ mgw_820) d10_passing_126 rfl,
    s_if_eq X d10_passing_129 rfl rfl,
    s_aload_n X d10_passing_132 rfl rfl,
    s_get X (ci := 10) (f := 4) rfl (fun w h => List.mem_cons_of_mem _ (uC_10 w h)) (by decide) (List.mem_cons_of_mem _ mgw_818) d10_passing_133 rfl,
    s_iload X d10_passing_136 rfl,
    s_iald X rfl d10_passing_138 rfl,
    s_goto X d10_passing_139 rfl,
    s_aload_n X d10_passing_142 rfl rfl,
    s_get X (ci := 10) (f := 3) rfl (fun w h => List.mem_cons_of_mem _ (uC_10 w h)) (by decide) (List.mem_cons_of_mem _ mgw_817) d10_passing_143 rfl,
    s_iload X d10_passing_146 rfl,
    s_iald X rfl d10_passing_148 rfl,
    s_iconst X d10_passing_149 rfl rfl,
    s_icmp_ne X d10_passing_150 rfl rfl,
    s_iload X d10_passing_153 rfl,
    s_iload X d10_passing_155 rfl,
    s_iadd X d10_passing_157 rfl,
    s_iret X hret hlocks d10_passing_158,
    s_iinc X d10_passing_159 rfl (by decide) rfl,
    s_goto X d10_passing_162 rfl,
    s_bipush X d10_passing_165 rfl rfl,
    s_iret X hret hlocks d10_passing_167, trivial⟩
theorem d10_count_0 : decode c10_count 0 = .ok (.aload_n 0, 1) := by decide +kernel
theorem d10_count_1 : decode c10_count 1 = .ok (.iconst 0, 1) := by decide +kernel
theorem d10_count_2 : decode c10_count 2 = .ok (.putfield 1, 3) := by decide +kernel
theorem d10_count_5 : decode c10_count 5 = .ok (.iconst 0, 1) := by decide +kernel
theorem d10_count_6 : decode c10_count 6 = .ok (.istore_n 2, 1) := by decide +kernel
theorem d10_count_7 : decode c10_count 7 = .ok (.iload_n 1, 1) := by decide +kernel
theorem d10_count_8 : decode c10_count 8 = .ok (.tableswitch 140 0 5 #[40, 45, 58, 63, 102, 107], 40) := by decide +kernel
theorem d10_count_48 : decode c10_count 48 = .ok (.aload_n 0, 1) := by decide +kernel
theorem d10_count_49 : decode c10_count 49 = .ok (.getfield 106, 3) := by decide +kernel
theorem d10_count_52 : decode c10_count 52 = .ok (.ireturn, 1) := by decide +kernel
theorem d10_count_53 : decode c10_count 53 = .ok (.aload_n 0, 1) := by decide +kernel
theorem d10_count_54 : decode c10_count 54 = .ok (.getfield 102, 3) := by decide +kernel
theorem d10_count_57 : decode c10_count 57 = .ok (.ifCond .eq 7, 3) := by decide +kernel
theorem d10_count_60 : decode c10_count 60 = .ok (.iconst 1, 1) := by decide +kernel
theorem d10_count_61 : decode c10_count 61 = .ok (.goto 4, 3) := by decide +kernel
theorem d10_count_64 : decode c10_count 64 = .ok (.iconst 0, 1) := by decide +kernel
theorem d10_count_65 : decode c10_count 65 = .ok (.ireturn, 1) := by decide +kernel
theorem d10_count_66 : decode c10_count 66 = .ok (.aload_n 0, 1) := by decide +kernel
theorem d10_count_67 : decode c10_count 67 = .ok (.getfield 26, 3) := by decide +kernel
theorem d10_count_70 : decode c10_count 70 = .ok (.ireturn, 1) := by decide +kernel
theorem d10_count_71 : decode c10_count 71 = .ok (.iconst 0, 1) := by decide +kernel
theorem d10_count_72 : decode c10_count 72 = .ok (.istore_n 3, 1) := by decide +kernel
theorem d10_count_73 : decode c10_count 73 = .ok (.iload_n 3, 1) := by decide +kernel
theorem d10_count_74 : decode c10_count 74 = .ok (.iconst 4, 1) := by decide +kernel
theorem d10_count_75 : decode c10_count 75 = .ok (.aload_n 0, 1) := by decide +kernel
theorem d10_count_76 : decode c10_count 76 = .ok (.getfield 26, 3) := by decide +kernel
theorem d10_count_79 : decode c10_count 79 = .ok (.imul, 1) := by decide +kernel
theorem d10_count_80 : decode c10_count 80 = .ok (.if_icmp .ge 28, 3) := by decide +kernel
theorem d10_count_83 : decode c10_count 83 = .ok (.iload_n 2, 1) := by decide +kernel
theorem d10_count_84 : decode c10_count 84 = .ok (.aload_n 0, 1) := by decide +kernel
theorem d10_count_85 : decode c10_count 85 = .ok (.getfield 29, 3) := by decide +kernel
theorem d10_count_88 : decode c10_count 88 = .ok (.iload_n 3, 1) := by decide +kernel
theorem d10_count_89 : decode c10_count 89 = .ok (.iaload, 1) := by decide +kernel
theorem d10_count_90 : decode c10_count 90 = .ok (.bipush (-2), 2) := by decide +kernel
theorem d10_count_92 : decode c10_count 92 = .ok (.if_icmp .eq 7, 3) := by decide +kernel
theorem d10_count_95 : decode c10_count 95 = .ok (.iconst 1, 1) := by decide +kernel
theorem d10_count_96 : decode c10_count 96 = .ok (.goto 4, 3) := by decide +kernel
theorem d10_count_99 : decode c10_count 99 = .ok (.iconst 0, 1) := by decide +kernel
theorem d10_count_100 : decode c10_count 100 = .ok (.iadd, 1) := by decide +kernel
theorem d10_count_101 : decode c10_count 101 = .ok (.istore_n 2, 1) := by decide +kernel
theorem d10_count_102 : decode c10_count 102 = .ok (.iinc 3 1, 3) := by decide +kernel
theorem d10_count_105 : decode c10_count 105 = .ok (.goto (-32), 3) := by decide +kernel
theorem d10_count_108 : decode c10_count 108 = .ok (.iload_n 2, 1) := by decide +kernel
theorem d10_count_109 : decode c10_count 109 = .ok (.ireturn, 1) := by decide +kernel
theorem d10_count_110 : decode c10_count 110 = .ok (.aload_n 0, 1) := by decide +kernel
theorem d10_count_111 : decode c10_count 111 = .ok (.getfield 123, 3) := by decide +kernel
theorem d10_count_114 : decode c10_count 114 = .ok (.ireturn, 1) := by decide +kernel
theorem d10_count_115 : decode c10_count 115 = .ok (.iconst 0, 1) := by decide +kernel
theorem d10_count_116 : decode c10_count 116 = .ok (.istore_n 3, 1) := by decide +kernel
theorem d10_count_117 : decode c10_count 117 = .ok (.iload_n 3, 1) := by decide +kernel
theorem d10_count_118 : decode c10_count 118 = .ok (.bipush 13, 2) := by decide +kernel
theorem d10_count_120 : decode c10_count 120 = .ok (.if_icmp .ge 26, 3) := by decide +kernel
theorem d10_count_123 : decode c10_count 123 = .ok (.iload_n 2, 1) := by decide +kernel
theorem d10_count_124 : decode c10_count 124 = .ok (.aload_n 0, 1) := by decide +kernel
theorem d10_count_125 : decode c10_count 125 = .ok (.getfield 42, 3) := by decide +kernel
theorem d10_count_128 : decode c10_count 128 = .ok (.iload_n 3, 1) := by decide +kernel
theorem d10_count_129 : decode c10_count 129 = .ok (.baload, 1) := by decide +kernel
theorem d10_count_130 : decode c10_count 130 = .ok (.ifCond .eq 7, 3) := by decide +kernel
theorem d10_count_133 : decode c10_count 133 = .ok (.iconst 1, 1) := by decide +kernel
theorem d10_count_134 : decode c10_count 134 = .ok (.goto 4, 3) := by decide +kernel
theorem d10_count_137 : decode c10_count 137 = .ok (.iconst 0, 1) := by decide +kernel
theorem d10_count_138 : decode c10_count 138 = .ok (.iadd, 1) := by decide +kernel
theorem d10_count_139 : decode c10_count 139 = .ok (.istore_n 2, 1) := by decide +kernel
theorem d10_count_140 : decode c10_count 140 = .ok (.iinc 3 1, 3) := by decide +kernel
theorem d10_count_143 : decode c10_count 143 = .ok (.goto (-26), 3) := by decide +kernel
theorem d10_count_146 : decode c10_count 146 = .ok (.iload_n 2, 1) := by decide +kernel
theorem d10_count_147 : decode c10_count 147 = .ok (.ireturn, 1) := by decide +kernel
theorem d10_count_148 : decode c10_count 148 = .ok (.iconst (-1), 1) := by decide +kernel
theorem d10_count_149 : decode c10_count 149 = .ok (.ireturn, 1) := by decide +kernel
def t10_count (l : Launch) (Po : ri_O) : List ri_S := [i_al 1 0,
  i_con 2 0,
  i_put 3 10 0 ri_isI,
  i_con 4 0,
  i_is 5 2,
  i_il 6 1,
  i_sw [(0, 7), (1, 10), (2, 17), (3, 20), (4, 44), (5, 47)] 67,
  i_al 8 0,
  i_get 9 10 5,
  i_ret Po 0 0,
  i_al 11 0,
  i_get 12 10 6,
  i_if 13 15 (fun x => x = 0),
  i_con 14 1,
  i_goto 16,
  i_con 16 0,
  i_ret Po 0 0,
  i_al 18 0,
  i_get 19 10 7,
  i_ret Po 0 0,
  i_con 21 0,
  i_is 22 3,
  i_il 23 3,
  i_con 24 4,
  i_al 25 0,
  i_get 26 10 7,
  i_bin 27 (fun x y => x * y),
  i_icmp 28 42 (fun x y => y ≤ x),
  i_il 29 2,
  i_al 30 0,
  i_get 31 10 8,
  i_il 32 3,
  i_ald 33 0,
  i_con 34 (-2),
  i_icmp 35 37 (fun x y => x = y),
  i_con 36 1,
  i_goto 38,
  i_con 38 0,
  i_bin 39 (fun x y => x + y),
  i_is 40 2,
  i_inc 41 3 1,
  i_goto 22,
  i_il 43 2,
  i_ret Po 0 0,
  i_al 45 0,
  i_get 46 10 26,
  i_ret Po 0 0,
  i_con 48 0,
  i_is 49 3,
  i_il 50 3,
  i_con 51 13,
  i_icmp 52 65 (fun x y => y ≤ x),
  i_il 53 2,
  i_al 54 0,
  i_get 55 10 12,
  i_il 56 3,
  i_ald 57 1,
  i_if 58 60 (fun x => x = 0),
  i_con 59 1,
  i_goto 61,
  i_con 61 0,
  i_bin 62 (fun x y => x + y),
  i_is 63 2,
  i_inc 64 3 1,
  i_goto 49,
  i_il 66 2,
  i_ret Po 0 0,
  i_con 68 (-1),
  i_ret Po 0 0]
set_option maxRecDepth 20000 in
set_option maxHeartbeats 4000000 in
theorem z10_count (l : Launch) (Po : ri_O) (p : Program) (e : Env) (s : State) (m : MethodId) (args : Array Value) (below : List Frame) (meth : Method) (c : Code) (D : va_G) (ka : Nat → ClassId) (sa : Nat → Nat) (base : Nat) (X : ri_X p s m args c c10_count 4 w10_count "ChoraleSearchModel" D ka sa base) (hret : meth.sig.returnType = (some .int)) (hlocks : meth.locks = false) (hname : meth.name = "count") : ri_clo (ri_W p l e r10_count s m args below meth c D ka sa base 4 (MQ below (ri_Qc D ka sa base Po) args s 0 0 (fun q => base ≤ q)) p10_count) (t10_count l Po) := by
  refine ri_clo_of ?_
  unfold t10_count
  exact ⟨s_aload_n X d10_count_0 rfl rfl,
    s_iconst X d10_count_1 rfl rfl,
    s_put X (ci := 10) (f := 0) rfl (fun w h => List.mem_cons_of_mem _ (uC_10 w h)) (by decide) tC_10 oC_10 nC_10 rfl ri_ok_int (List.mem_cons_of_mem _ mgw_814) d10_count_2 rfl,
    s_iconst X d10_count_5 rfl rfl,
    s_istore_n X d10_count_6 rfl (by decide) rfl,
    s_iload_n X d10_count_7 rfl rfl,
    s_tsw X d10_count_8 rfl (by decide) (by decide) (by decide),
    s_aload_n X d10_count_48 rfl rfl,
    s_get X (ci := 10) (f := 5) rfl (fun w h => List.mem_cons_of_mem _ (uC_10 w h)) (by decide) (List.mem_cons_of_mem _ mgw_819) d10_count_49 rfl,
    s_iret X hret hlocks d10_count_52,
    s_aload_n X d10_count_53 rfl rfl,
    s_get X (ci := 10) (f := 6) rfl (fun w h => List.mem_cons_of_mem _ (uC_10 w h)) (by decide) (List.mem_cons_of_mem _ mgw_820) d10_count_54 rfl,
    s_if_eq X d10_count_57 rfl rfl,
    s_iconst X d10_count_60 rfl rfl,
    s_goto X d10_count_61 rfl,
    s_iconst X d10_count_64 rfl rfl,
    s_iret X hret hlocks d10_count_65,
    s_aload_n X d10_count_66 rfl rfl,
    s_get X (ci := 10) (f := 7) rfl (fun w h => List.mem_cons_of_mem _ (uC_10 w h)) (by decide) (List.mem_cons_of_mem _ mgw_821) d10_count_67 rfl,
    s_iret X hret hlocks d10_count_70,
    s_iconst X d10_count_71 rfl rfl,
    s_istore_n X d10_count_72 rfl (by decide) rfl,
    s_iload_n X d10_count_73 rfl rfl,
    s_iconst X d10_count_74 rfl rfl,
    s_aload_n X d10_count_75 rfl rfl,
    s_get X (ci := 10) (f := 7) rfl (fun w h => List.mem_cons_of_mem _ (uC_10 w h)) (by decide) (List.mem_cons_of_mem _ mgw_821) d10_count_76 rfl,
    s_imul X d10_count_79 rfl,
    s_icmp_ge X d10_count_80 rfl rfl,
    s_iload_n X d10_count_83 rfl rfl,
    s_aload_n X d10_count_84 rfl rfl,
    s_get X (ci := 10) (f := 8) rfl (fun w h => List.mem_cons_of_mem _ (uC_10 w h)) (by decide) (List.mem_cons_of_mem _ mgw_822) d10_count_85 rfl,
    s_iload_n X d10_count_88 rfl rfl,
    s_iald X rfl d10_count_89 rfl,
    s_bipush X d10_count_90 rfl rfl,
    s_icmp_eq X d10_count_92 rfl rfl,
    s_iconst X d10_count_95 rfl rfl,
    s_goto X d10_count_96 rfl,
    s_iconst X d10_count_99 rfl rfl,
    s_iadd X d10_count_100 rfl,
    s_istore_n X d10_count_101 rfl (by decide) rfl,
    s_iinc X d10_count_102 rfl (by decide) rfl,
    s_goto X d10_count_105 rfl,
    s_iload_n X d10_count_108 rfl rfl,
    s_iret X hret hlocks d10_count_109,
    s_aload_n X d10_count_110 rfl rfl,
    s_get X (ci := 10) (f := 26) rfl (fun w h => List.mem_cons_of_mem _ (uC_10 w h)) (by decide) (List.mem_cons_of_mem _ mgw_840) d10_count_111 rfl,
    s_iret X hret hlocks d10_count_114,
    s_iconst X d10_count_115 rfl rfl,
    s_istore_n X d10_count_116 rfl (by decide) rfl,
    s_iload_n X d10_count_117 rfl rfl,
    s_bipush X d10_count_118 rfl rfl,
    s_icmp_ge X d10_count_120 rfl rfl,
    s_iload_n X d10_count_123 rfl rfl,
    s_aload_n X d10_count_124 rfl rfl,
    s_get X (ci := 10) (f := 12) rfl (fun w h => List.mem_cons_of_mem _ (uC_10 w h)) (by decide) (List.mem_cons_of_mem _ mgw_826) d10_count_125 rfl,
    s_iload_n X d10_count_128 rfl rfl,
    s_zald X rfl d10_count_129 rfl,
    s_if_eq X d10_count_130 rfl rfl,
    s_iconst X d10_count_133 rfl rfl,
    s_goto X d10_count_134 rfl,
    s_iconst X d10_count_137 rfl rfl,
    s_iadd X d10_count_138 rfl,
    s_istore_n X d10_count_139 rfl (by decide) rfl,
    s_iinc X d10_count_140 rfl (by decide) rfl,
    s_goto X d10_count_143 rfl,
    s_iload_n X d10_count_146 rfl rfl,
    s_iret X hret hlocks d10_count_147,
    s_iconst X d10_count_148 rfl rfl,
    s_iret X hret hlocks d10_count_149, trivial⟩
theorem d10_member_0 : decode c10_member 0 = .ok (.aload_n 0, 1) := by decide +kernel
theorem d10_member_1 : decode c10_member 1 = .ok (.iconst 0, 1) := by decide +kernel
theorem d10_member_2 : decode c10_member 2 = .ok (.putfield 1, 3) := by decide +kernel
theorem d10_member_5 : decode c10_member 5 = .ok (.iload_n 1, 1) := by decide +kernel
theorem d10_member_6 : decode c10_member 6 = .ok (.i2l, 1) := by decide +kernel
theorem d10_member_7 : decode c10_member 7 = .ok (.lconst 0, 1) := by decide +kernel
theorem d10_member_8 : decode c10_member 8 = .ok (.ldc2_w 140, 3) := by decide +kernel
theorem d10_member_11 : decode c10_member 11 = .ok (.invokestatic 119, 3) := by decide +kernel
theorem d10_member_14 : decode c10_member 14 = .ok (.ifCond .eq 15, 3) := by decide +kernel
theorem d10_member_17 : decode c10_member 17 = .ok (.iload_n 2, 1) := by decide +kernel
theorem d10_member_18 : decode c10_member 18 = .ok (.i2l, 1) := by decide +kernel
theorem d10_member_19 : decode c10_member 19 = .ok (.lconst 0, 1) := by decide +kernel
theorem d10_member_20 : decode c10_member 20 = .ok (.ldc2_w 128, 3) := by decide +kernel
theorem d10_member_23 : decode c10_member 23 = .ok (.invokestatic 119, 3) := by decide +kernel
theorem d10_member_26 : decode c10_member 26 = .ok (.ifCond .ne 5, 3) := by decide +kernel
theorem d10_member_29 : decode c10_member 29 = .ok (.iconst (-1), 1) := by decide +kernel
theorem d10_member_30 : decode c10_member 30 = .ok (.ireturn, 1) := by decide +kernel
theorem d10_member_31 : decode c10_member 31 = .ok (.aload_n 0, 1) := by decide +kernel
theorem d10_member_32 : decode c10_member 32 = .ok (.iload_n 1, 1) := by decide +kernel
theorem d10_member_33 : decode c10_member 33 = .ok (.iload_n 2, 1) := by decide +kernel
theorem d10_member_34 : decode c10_member 34 = .ok (.invokevirtual 113, 3) := by decide +kernel
theorem d10_member_37 : decode c10_member 37 = .ok (.ifCond .ge 8, 3) := by decide +kernel
theorem d10_member_40 : decode c10_member 40 = .ok (.bipush (-2), 2) := by decide +kernel
theorem d10_member_42 : decode c10_member 42 = .ok (.goto 17, 3) := by decide +kernel
theorem d10_member_45 : decode c10_member 45 = .ok (.aload_n 0, 1) := by decide +kernel
theorem d10_member_46 : decode c10_member 46 = .ok (.iload_n 1, 1) := by decide +kernel
theorem d10_member_47 : decode c10_member 47 = .ok (.iload_n 2, 1) := by decide +kernel
theorem d10_member_48 : decode c10_member 48 = .ok (.invokevirtual 113, 3) := by decide +kernel
theorem d10_member_51 : decode c10_member 51 = .ok (.aload_n 0, 1) := by decide +kernel
theorem d10_member_52 : decode c10_member 52 = .ok (.getfield 106, 3) := by decide +kernel
theorem d10_member_55 : decode c10_member 55 = .ok (.iadd, 1) := by decide +kernel
theorem d10_member_56 : decode c10_member 56 = .ok (.bipush 12, 2) := by decide +kernel
theorem d10_member_58 : decode c10_member 58 = .ok (.irem, 1) := by decide +kernel
theorem d10_member_59 : decode c10_member 59 = .ok (.ireturn, 1) := by decide +kernel
def t10_member (l : Launch) (Po : ri_O) : List ri_S := [i_al 1 0,
  i_con 2 0,
  i_put 3 10 0 ri_isI,
  i_il 4 1,
  i_i2l 5,
  i_lcon 6 0,
  i_lcon 7 12,
  i_call 8 3 (ri_Ev l y10_in w10_in r10_in 0 0) 0 0 0 0,
  i_if 9 15 (fun x => x = 0),
  i_il 10 2,
  i_i2l 11,
  i_lcon 12 0,
  i_lcon 13 3,
  i_call 14 3 (ri_Ev l y10_in w10_in r10_in 0 0) 0 0 0 0,
  i_if 15 17 (fun x => ¬ x = 0),
  i_con 16 (-1),
  i_ret Po 0 0,
  i_al 18 0,
  i_il 19 1,
  i_il 20 2,
  i_callV 21 3 10 (ri_Ev l y10_degree w10_degree r10_degree 0 0) 0 0 0 0,
  i_if 22 24 (fun x => 0 ≤ x),
  i_con 23 (-2),
  i_goto 33,
  i_al 25 0,
  i_il 26 1,
  i_il 27 2,
  i_callV 28 3 10 (ri_Ev l y10_degree w10_degree r10_degree 0 0) 0 0 0 0,
  i_al 29 0,
  i_get 30 10 5,
  i_bin 31 (fun x y => x + y),
  i_con 32 12,
  i_div 33 (fun x y => x - x / y * y),
  i_ret Po 0 0]
set_option maxRecDepth 20000 in
set_option maxHeartbeats 4000000 in
theorem z10_member (l : Launch) (Po : ri_O) (p : Program) (e : Env) (s : State) (m : MethodId) (args : Array Value) (below : List Frame) (meth : Method) (c : Code) (D : va_G) (ka : Nat → ClassId) (sa : Nat → Nat) (base : Nat) (X : ri_X p s m args c c10_member 3 w10_member "ChoraleSearchModel" D ka sa base) (hret : meth.sig.returnType = (some .int)) (hlocks : meth.locks = false) (hname : meth.name = "member") : ri_clo (ri_W p l e r10_member s m args below meth c D ka sa base 3 (MQ below (ri_Qc D ka sa base Po) args s 0 0 (fun q => base ≤ q)) p10_member) (t10_member l Po) := by
  refine ri_clo_of ?_
  unfold t10_member
  exact ⟨s_aload_n X d10_member_0 rfl rfl,
    s_iconst X d10_member_1 rfl rfl,
    s_put X (ci := 10) (f := 0) rfl (fun w h => List.mem_cons_of_mem _ (uC_10 w h)) (by decide) tC_10 oC_10 nC_10 rfl ri_ok_int (List.mem_cons_of_mem _ mgw_814) d10_member_2 rfl,
    s_iload_n X d10_member_5 rfl rfl,
    s_i2l X d10_member_6 rfl,
    s_lconst X d10_member_7 rfl rfl,
    s_ldc2 X d10_member_8 (List.mem_cons_of_mem _ mgw_956) rfl,
    s_callS ri_NW_ok X ⟨ri_cB X 3 mgw_930 (List.mem_cons_of_mem _ mgw_12) (List.mem_cons_of_mem _ mgw_928) (by decide +kernel) rfl rfl ⟨by decide, by decide⟩, X.2.2.2.2.1 _ (List.mem_cons_of_mem _ mgw_929)⟩ d10_member_11 rfl,
    s_if_eq X d10_member_14 rfl rfl,
    s_iload_n X d10_member_17 rfl rfl,
    s_i2l X d10_member_18 rfl,
    s_lconst X d10_member_19 rfl rfl,
    s_ldc2 X d10_member_20 (List.mem_cons_of_mem _ mgw_940) rfl,
    s_callS ri_NW_ok X ⟨ri_cB X 3 mgw_930 (List.mem_cons_of_mem _ mgw_12) (List.mem_cons_of_mem _ mgw_928) (by decide +kernel) rfl rfl ⟨by decide, by decide⟩, X.2.2.2.2.1 _ (List.mem_cons_of_mem _ mgw_929)⟩ d10_member_23 rfl,
    s_if_ne X d10_member_26 rfl rfl,
    s_iconst X d10_member_29 rfl rfl,
    s_iret X hret hlocks d10_member_30,
    s_aload_n X d10_member_31 rfl rfl,
    s_iload_n X d10_member_32 rfl rfl,
    s_iload_n X d10_member_33 rfl rfl,
    s_callV ri_NW_ok X (na := 2) (ci := 10) rfl ⟨ri_cB X 2 mgw_1008 (List.mem_cons_of_mem _ mgw_12) (List.mem_cons_of_mem _ mgw_1005) (by decide +kernel) rfl rfl ⟨by decide, by decide⟩, X.2.2.2.2.1 _ (List.mem_cons_of_mem _ mgw_1007), X.2.2.2.2.1 _ (List.mem_cons_of_mem _ mgp_82)⟩ d10_member_34 rfl,
    s_if_ge X d10_member_37 rfl rfl,
    s_bipush X d10_member_40 rfl rfl,
    s_goto X d10_member_42 rfl,
    s_aload_n X d10_member_45 rfl rfl,
    s_iload_n X d10_member_46 rfl rfl,
    s_iload_n X d10_member_47 rfl rfl,
    s_callV ri_NW_ok X (na := 2) (ci := 10) rfl ⟨ri_cB X 2 mgw_1008 (List.mem_cons_of_mem _ mgw_12) (List.mem_cons_of_mem _ mgw_1005) (by decide +kernel) rfl rfl ⟨by decide, by decide⟩, X.2.2.2.2.1 _ (List.mem_cons_of_mem _ mgw_1007), X.2.2.2.2.1 _ (List.mem_cons_of_mem _ mgp_82)⟩ d10_member_48 rfl,
    s_aload_n X d10_member_51 rfl rfl,
    s_get X (ci := 10) (f := 5) rfl (fun w h => List.mem_cons_of_mem _ (uC_10 w h)) (by decide) (List.mem_cons_of_mem _ mgw_819) d10_member_52 rfl,
    s_iadd X d10_member_55 rfl,
    s_bipush X d10_member_56 rfl rfl,
    s_irem X d10_member_58 rfl,
    s_iret X hret hlocks d10_member_59, trivial⟩
