/-! the constructor of RowSearch -/
theorem d8_init_0 : decode c8_init 0 = .ok (.aload_n 0, 1) := by decide +kernel
theorem d8_init_1 : decode c8_init 1 = .ok (.invokespecial 3, 3) := by decide +kernel
theorem d8_init_4 : decode c8_init 4 = .ok (.aload_n 0, 1) := by decide +kernel
theorem d8_init_5 : decode c8_init 5 = .ok (.bipush 16, 2) := by decide +kernel
theorem d8_init_7 : decode c8_init 7 = .ok (.sipush 1600, 3) := by decide +kernel
theorem d8_init_10 : decode c8_init 10 = .ok (.multianewarray 9 2, 4) := by decide +kernel
theorem d8_init_14 : decode c8_init 14 = .ok (.putfield 11, 3) := by decide +kernel
theorem d8_init_17 : decode c8_init 17 = .ok (.aload_n 0, 1) := by decide +kernel
theorem d8_init_18 : decode c8_init 18 = .ok (.sipush 1600, 3) := by decide +kernel
theorem d8_init_21 : decode c8_init 21 = .ok (.newarray .int, 2) := by decide +kernel
theorem d8_init_23 : decode c8_init 23 = .ok (.putfield 16, 3) := by decide +kernel
theorem d8_init_26 : decode c8_init 26 = .ok (.aload_n 0, 1) := by decide +kernel
theorem d8_init_27 : decode c8_init 27 = .ok (.sipush 1600, 3) := by decide +kernel
theorem d8_init_30 : decode c8_init 30 = .ok (.newarray .int, 2) := by decide +kernel
theorem d8_init_32 : decode c8_init 32 = .ok (.putfield 20, 3) := by decide +kernel
theorem d8_init_35 : decode c8_init 35 = .ok (.aload_n 0, 1) := by decide +kernel
theorem d8_init_36 : decode c8_init 36 = .ok (.sipush 400, 3) := by decide +kernel
theorem d8_init_39 : decode c8_init 39 = .ok (.newarray .int, 2) := by decide +kernel
theorem d8_init_41 : decode c8_init 41 = .ok (.putfield 23, 3) := by decide +kernel
theorem d8_init_44 : decode c8_init 44 = .ok (.aload_n 0, 1) := by decide +kernel
theorem d8_init_45 : decode c8_init 45 = .ok (.bipush 100, 2) := by decide +kernel
theorem d8_init_47 : decode c8_init 47 = .ok (.newarray .int, 2) := by decide +kernel
theorem d8_init_49 : decode c8_init 49 = .ok (.putfield 26, 3) := by decide +kernel
theorem d8_init_52 : decode c8_init 52 = .ok (.aload_n 0, 1) := by decide +kernel
theorem d8_init_53 : decode c8_init 53 = .ok (.iconst 4, 1) := by decide +kernel
theorem d8_init_54 : decode c8_init 54 = .ok (.newarray .int, 2) := by decide +kernel
theorem d8_init_56 : decode c8_init 56 = .ok (.putfield 29, 3) := by decide +kernel
theorem d8_init_59 : decode c8_init 59 = .ok (.aload_n 0, 1) := by decide +kernel
theorem d8_init_60 : decode c8_init 60 = .ok (.iconst 4, 1) := by decide +kernel
theorem d8_init_61 : decode c8_init 61 = .ok (.newarray .int, 2) := by decide +kernel
theorem d8_init_63 : decode c8_init 63 = .ok (.putfield 32, 3) := by decide +kernel
theorem d8_init_66 : decode c8_init 66 = .ok (.aload_n 0, 1) := by decide +kernel
theorem d8_init_67 : decode c8_init 67 = .ok (.bipush 64, 2) := by decide +kernel
theorem d8_init_69 : decode c8_init 69 = .ok (.newarray .int, 2) := by decide +kernel
theorem d8_init_71 : decode c8_init 71 = .ok (.putfield 35, 3) := by decide +kernel
theorem d8_init_74 : decode c8_init 74 = .ok (.aload_n 0, 1) := by decide +kernel
theorem d8_init_75 : decode c8_init 75 = .ok (.aload_n 1, 1) := by decide +kernel
theorem d8_init_76 : decode c8_init 76 = .ok (.putfield 38, 3) := by decide +kernel
theorem d8_init_79 : decode c8_init 79 = .ok (.aload_n 0, 1) := by decide +kernel
theorem d8_init_80 : decode c8_init 80 = .ok (.aload_n 2, 1) := by decide +kernel
theorem d8_init_81 : decode c8_init 81 = .ok (.putfield 42, 3) := by decide +kernel
theorem d8_init_84 : decode c8_init 84 = .ok (.aload_n 0, 1) := by decide +kernel
theorem d8_init_85 : decode c8_init 85 = .ok (.aload_n 3, 1) := by decide +kernel
theorem d8_init_86 : decode c8_init 86 = .ok (.putfield 46, 3) := by decide +kernel
theorem d8_init_89 : decode c8_init 89 = .ok (.aload_n 0, 1) := by decide +kernel
theorem d8_init_90 : decode c8_init 90 = .ok (.aload 4, 2) := by decide +kernel
theorem d8_init_92 : decode c8_init 92 = .ok (.putfield 50, 3) := by decide +kernel
theorem d8_init_95 : decode c8_init 95 = .ok (.return_, 1) := by decide +kernel
def t8_init (l : Launch) (Po : ri_O) : List ri_S := [i_al 1 0,
  i_oi 2 1 20,
  i_al 3 0,
  i_con 4 16,
  i_con 5 1600,
  i_mul2 6 3 24 29388,
  i_put 7 8 4 ri_isR,
  i_al 8 0,
  i_con 9 1600,
  i_nwa 10 0 24 29388,
  i_put 11 8 5 ri_isR,
  i_al 12 0,
  i_con 13 1600,
  i_nwa 14 0 24 29388,
  i_put 15 8 6 ri_isR,
  i_al 16 0,
  i_con 17 400,
  i_nwa 18 0 24 29388,
  i_put 19 8 7 ri_isR,
  i_al 20 0,
  i_con 21 100,
  i_nwa 22 0 24 29388,
  i_put 23 8 9 ri_isR,
  i_al 24 0,
  i_con 25 4,
  i_nwa 26 0 24 29388,
  i_put 27 8 10 ri_isR,
  i_al 28 0,
  i_con 29 4,
  i_nwa 30 0 24 29388,
  i_put 31 8 11 ri_isR,
  i_al 32 0,
  i_con 33 64,
  i_nwa 34 0 24 29388,
  i_put 35 8 12 ri_isR,
  i_al 36 0,
  i_al 37 1,
  i_put 38 8 0 ri_isR,
  i_al 39 0,
  i_al 40 2,
  i_put 41 8 1 ri_isR,
  i_al 42 0,
  i_al 43 3,
  i_put 44 8 2 ri_isR,
  i_al 45 0,
  i_al 46 4,
  i_put 47 8 3 ri_isR,
  i_vret Po 24 29388]
set_option maxRecDepth 20000 in
set_option maxHeartbeats 4000000 in
theorem z8_init (l : Launch) (Po : ri_O) (p : Program) (e : Env) (s : State) (m : MethodId) (args : Array Value) (below : List Frame) (meth : Method) (c : Code) (D : va_G) (ka : Nat → ClassId) (sa : Nat → Nat) (base : Nat) (X : ri_X p s m args c c8_init 5 w8_init "ChoraleSearch$RowSearch" D ka sa base) (hret : meth.sig.returnType = none) (hlocks : meth.locks = false) (hname : meth.name = "<init>") : ri_clo (ri_W p l e r8_init s m args below meth c D ka sa base 5 (MQ below (ri_Qc D ka sa base Po) args s 24 29388 (fun q => base ≤ q)) p8_init) (t8_init l Po) := by
  refine ri_clo_of ?_
  unfold t8_init
  exact ⟨s_aload_n X d8_init_0 rfl rfl,
    s_oi X (List.mem_cons_of_mem _ mgw_273) (List.mem_cons_of_mem _ mgw_22) (List.mem_cons_of_mem _ mgw_23) d8_init_1 rfl,
    s_aload_n X d8_init_4 rfl rfl,
    s_bipush X d8_init_5 rfl rfl,
    s_sipush X d8_init_7 rfl rfl,
    s_multi X (List.mem_cons_of_mem _ mgw_274) (List.mem_cons_of_mem _ mgw_78) d8_init_10 rfl,
    s_putF X (ci := 8) (f := 4) rfl (fun w h => List.mem_cons_of_mem _ (uC_8 w h)) (by decide) tC_8 oC_8 nC_8 rfl ri_ok_arr (List.mem_cons_of_mem _ mgw_280) hname rfl d8_init_14 rfl,
    s_aload_n X d8_init_17 rfl rfl,
    s_sipush X d8_init_18 rfl rfl,
    s_newi X rfl (List.mem_cons_of_mem _ mgw_78) d8_init_21 rfl,
    s_put X (ci := 8) (f := 5) rfl (fun w h => List.mem_cons_of_mem _ (uC_8 w h)) (by decide) tC_8 oC_8 nC_8 rfl ri_ok_arr (List.mem_cons_of_mem _ mgw_281) d8_init_23 rfl,
    s_aload_n X d8_init_26 rfl rfl,
    s_sipush X d8_init_27 rfl rfl,
    s_newi X rfl (List.mem_cons_of_mem _ mgw_78) d8_init_30 rfl,
    s_put X (ci := 8) (f := 6) rfl (fun w h => List.mem_cons_of_mem _ (uC_8 w h)) (by decide) tC_8 oC_8 nC_8 rfl ri_ok_arr (List.mem_cons_of_mem _ mgw_282) d8_init_32 rfl,
    s_aload_n X d8_init_35 rfl rfl,
    s_sipush X d8_init_36 rfl rfl,
    s_newi X rfl (List.mem_cons_of_mem _ mgw_78) d8_init_39 rfl,
    s_putF X (ci := 8) (f := 7) rfl (fun w h => List.mem_cons_of_mem _ (uC_8 w h)) (by decide) tC_8 oC_8 nC_8 rfl ri_ok_arr (List.mem_cons_of_mem _ mgw_283) hname rfl d8_init_41 rfl,
    s_aload_n X d8_init_44 rfl rfl,
    s_bipush X d8_init_45 rfl rfl,
    s_newi X rfl (List.mem_cons_of_mem _ mgw_78) d8_init_47 rfl,
    s_putF X (ci := 8) (f := 9) rfl (fun w h => List.mem_cons_of_mem _ (uC_8 w h)) (by decide) tC_8 oC_8 nC_8 rfl ri_ok_arr (List.mem_cons_of_mem _ mgw_285) hname rfl d8_init_49 rfl,
    s_aload_n X d8_init_52 rfl rfl,
    s_iconst X d8_init_53 rfl rfl,
    s_newi X rfl (List.mem_cons_of_mem _ mgw_78) d8_init_54 rfl,
    s_putF X (ci := 8) (f := 10) rfl (fun w h => List.mem_cons_of_mem _ (uC_8 w h)) (by decide) tC_8 oC_8 nC_8 rfl ri_ok_arr (List.mem_cons_of_mem _ mgw_286) hname rfl d8_init_56 rfl,
    s_aload_n X d8_init_59 rfl rfl,
    s_iconst X d8_init_60 rfl rfl,
    s_newi X rfl (List.mem_cons_of_mem _ mgw_78) d8_init_61 rfl,
    s_putF X (ci := 8) (f := 11) rfl (fun w h => List.mem_cons_of_mem _ (uC_8 w h)) (by decide) tC_8 oC_8 nC_8 rfl ri_ok_arr (List.mem_cons_of_mem _ mgw_287) hname rfl d8_init_63 rfl,
    s_aload_n X d8_init_66 rfl rfl,
    s_bipush X d8_init_67 rfl rfl,
    s_newi X rfl (List.mem_cons_of_mem _ mgw_78) d8_init_69 rfl,
    s_putF X (ci := 8) (f := 12) rfl (fun w h => List.mem_cons_of_mem _ (uC_8 w h)) (by decide) tC_8 oC_8 nC_8 rfl ri_ok_arr (List.mem_cons_of_mem _ mgw_289) hname rfl d8_init_71 rfl,
    s_aload_n X d8_init_74 rfl rfl,
    s_aload_n X d8_init_75 rfl rfl,
    s_putF X (ci := 8) (f := 0) rfl (fun w h => List.mem_cons_of_mem _ (uC_8 w h)) (by decide) tC_8 oC_8 nC_8 rfl ri_ok_ref (List.mem_cons_of_mem _ mgw_276) hname rfl d8_init_76 rfl,
    s_aload_n X d8_init_79 rfl rfl,
    s_aload_n X d8_init_80 rfl rfl,
    s_putF X (ci := 8) (f := 1) rfl (fun w h => List.mem_cons_of_mem _ (uC_8 w h)) (by decide) tC_8 oC_8 nC_8 rfl ri_ok_ref (List.mem_cons_of_mem _ mgw_277) hname rfl d8_init_81 rfl,
    s_aload_n X d8_init_84 rfl rfl,
    s_aload_n X d8_init_85 rfl rfl,
    s_putF X (ci := 8) (f := 2) rfl (fun w h => List.mem_cons_of_mem _ (uC_8 w h)) (by decide) tC_8 oC_8 nC_8 rfl ri_ok_ref (List.mem_cons_of_mem _ mgw_278) hname rfl d8_init_86 rfl,
    s_aload_n X d8_init_89 rfl rfl,
    s_aload X d8_init_90 rfl,
    s_putF X (ci := 8) (f := 3) rfl (fun w h => List.mem_cons_of_mem _ (uC_8 w h)) (by decide) tC_8 oC_8 nC_8 rfl ri_ok_ref (List.mem_cons_of_mem _ mgw_279) hname rfl d8_init_92 rfl,
    s_vret X hret hlocks d8_init_95, trivial⟩
