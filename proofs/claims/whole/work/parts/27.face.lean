theorem d9_init_0 : decode c9_init 0 = .ok (.aload_n 0, 1) := by decide +kernel
theorem d9_init_1 : decode c9_init 1 = .ok (.invokespecial 1, 3) := by decide +kernel
theorem d9_init_4 : decode c9_init 4 = .ok (.aload_n 0, 1) := by decide +kernel
theorem d9_init_5 : decode c9_init 5 = .ok (.new 7, 3) := by decide +kernel
theorem d9_init_8 : decode c9_init 8 = .ok (.dup, 1) := by decide +kernel
theorem d9_init_9 : decode c9_init 9 = .ok (.invokespecial 9, 3) := by decide +kernel
theorem d9_init_12 : decode c9_init 12 = .ok (.putfield 10, 3) := by decide +kernel
theorem d9_init_15 : decode c9_init 15 = .ok (.aload_n 0, 1) := by decide +kernel
theorem d9_init_16 : decode c9_init 16 = .ok (.new 16, 3) := by decide +kernel
theorem d9_init_19 : decode c9_init 19 = .ok (.dup, 1) := by decide +kernel
theorem d9_init_20 : decode c9_init 20 = .ok (.invokespecial 18, 3) := by decide +kernel
theorem d9_init_23 : decode c9_init 23 = .ok (.putfield 19, 3) := by decide +kernel
theorem d9_init_26 : decode c9_init 26 = .ok (.new 23, 3) := by decide +kernel
theorem d9_init_29 : decode c9_init 29 = .ok (.dup, 1) := by decide +kernel
theorem d9_init_30 : decode c9_init 30 = .ok (.aload_n 0, 1) := by decide +kernel
theorem d9_init_31 : decode c9_init 31 = .ok (.getfield 10, 3) := by decide +kernel
theorem d9_init_34 : decode c9_init 34 = .ok (.aload_n 0, 1) := by decide +kernel
theorem d9_init_35 : decode c9_init 35 = .ok (.getfield 19, 3) := by decide +kernel
theorem d9_init_38 : decode c9_init 38 = .ok (.invokespecial 25, 3) := by decide +kernel
theorem d9_init_41 : decode c9_init 41 = .ok (.astore_n 1, 1) := by decide +kernel
theorem d9_init_42 : decode c9_init 42 = .ok (.new 28, 3) := by decide +kernel
theorem d9_init_45 : decode c9_init 45 = .ok (.dup, 1) := by decide +kernel
theorem d9_init_46 : decode c9_init 46 = .ok (.aload_n 0, 1) := by decide +kernel
theorem d9_init_47 : decode c9_init 47 = .ok (.getfield 19, 3) := by decide +kernel
theorem d9_init_50 : decode c9_init 50 = .ok (.invokespecial 30, 3) := by decide +kernel
theorem d9_init_53 : decode c9_init 53 = .ok (.astore_n 2, 1) := by decide +kernel
theorem d9_init_54 : decode c9_init 54 = .ok (.aload_n 0, 1) := by decide +kernel
theorem d9_init_55 : decode c9_init 55 = .ok (.new 33, 3) := by decide +kernel
theorem d9_init_58 : decode c9_init 58 = .ok (.dup, 1) := by decide +kernel
theorem d9_init_59 : decode c9_init 59 = .ok (.aload_n 0, 1) := by decide +kernel
theorem d9_init_60 : decode c9_init 60 = .ok (.getfield 10, 3) := by decide +kernel
theorem d9_init_63 : decode c9_init 63 = .ok (.aload_n 1, 1) := by decide +kernel
theorem d9_init_64 : decode c9_init 64 = .ok (.invokespecial 35, 3) := by decide +kernel
theorem d9_init_67 : decode c9_init 67 = .ok (.putfield 38, 3) := by decide +kernel
theorem d9_init_70 : decode c9_init 70 = .ok (.aload_n 0, 1) := by decide +kernel
theorem d9_init_71 : decode c9_init 71 = .ok (.new 42, 3) := by decide +kernel
theorem d9_init_74 : decode c9_init 74 = .ok (.dup, 1) := by decide +kernel
theorem d9_init_75 : decode c9_init 75 = .ok (.aload_n 0, 1) := by decide +kernel
theorem d9_init_76 : decode c9_init 76 = .ok (.getfield 10, 3) := by decide +kernel
theorem d9_init_79 : decode c9_init 79 = .ok (.aload_n 0, 1) := by decide +kernel
theorem d9_init_80 : decode c9_init 80 = .ok (.getfield 38, 3) := by decide +kernel
theorem d9_init_83 : decode c9_init 83 = .ok (.aload_n 1, 1) := by decide +kernel
theorem d9_init_84 : decode c9_init 84 = .ok (.aload_n 2, 1) := by decide +kernel
theorem d9_init_85 : decode c9_init 85 = .ok (.invokespecial 44, 3) := by decide +kernel
theorem d9_init_88 : decode c9_init 88 = .ok (.putfield 47, 3) := by decide +kernel
theorem d9_init_91 : decode c9_init 91 = .ok (.aload_n 0, 1) := by decide +kernel
theorem d9_init_92 : decode c9_init 92 = .ok (.new 51, 3) := by decide +kernel
theorem d9_init_95 : decode c9_init 95 = .ok (.dup, 1) := by decide +kernel
theorem d9_init_96 : decode c9_init 96 = .ok (.aload_n 0, 1) := by decide +kernel
theorem d9_init_97 : decode c9_init 97 = .ok (.getfield 10, 3) := by decide +kernel
theorem d9_init_100 : decode c9_init 100 = .ok (.aload_n 0, 1) := by decide +kernel
theorem d9_init_101 : decode c9_init 101 = .ok (.getfield 38, 3) := by decide +kernel
theorem d9_init_104 : decode c9_init 104 = .ok (.aload_n 2, 1) := by decide +kernel
theorem d9_init_105 : decode c9_init 105 = .ok (.new 53, 3) := by decide +kernel
theorem d9_init_108 : decode c9_init 108 = .ok (.dup, 1) := by decide +kernel
theorem d9_init_109 : decode c9_init 109 = .ok (.aload_n 0, 1) := by decide +kernel
theorem d9_init_110 : decode c9_init 110 = .ok (.getfield 10, 3) := by decide +kernel
theorem d9_init_113 : decode c9_init 113 = .ok (.aload_n 0, 1) := by decide +kernel
theorem d9_init_114 : decode c9_init 114 = .ok (.getfield 19, 3) := by decide +kernel
theorem d9_init_117 : decode c9_init 117 = .ok (.invokespecial 55, 3) := by decide +kernel
theorem d9_init_120 : decode c9_init 120 = .ok (.invokespecial 56, 3) := by decide +kernel
theorem d9_init_123 : decode c9_init 123 = .ok (.putfield 59, 3) := by decide +kernel
theorem d9_init_126 : decode c9_init 126 = .ok (.return_, 1) := by decide +kernel
def t9_init (l : Launch) (Po : ri_O) : List ri_S := [i_al 1 0,
  i_oi 2 3 71,
  i_al 3 0,
  i_nw 4 0 9 [.int 0, .int 0, .null, .null, .null, .null, .null, .null, .null] 100 43636,
  i_dup 5,
  i_callV 6 1 0 (ri_Ev l y0_init w0_init r0_init 7 129) 7 129 100 43636,
  i_put 7 9 0 ri_isR,
  i_al 8 0,
  i_nw 9 1 7 [.int 0, .int 0, .int 0, .null, .null, .null, .null] 100 43636,
  i_dup 10,
  i_callV 11 1 1 (ri_Ev l y1_init w1_init r1_init 4 380) 4 380 100 43636,
  i_put 12 9 1 ri_isR,
  i_nw 13 2 5 [.null, .null, .null, .null, .null] 100 43636,
  i_dup 14,
  i_al 15 0,
  i_get 16 9 0,
  i_al 17 0,
  i_get 18 9 1,
  i_callV 19 3 2 (ri_Ev l y2_init w2_init r2_init 3 12) 3 12 100 43636,
  i_as 20 1,
  i_nw 21 3 5 [.null, .int 0, .int 0, .null, .null] 100 43636,
  i_dup 22,
  i_al 23 0,
  i_get 24 9 1,
  i_callV 25 2 3 (ri_Ev l y3_init w3_init r3_init 2 8) 2 8 100 43636,
  i_as 26 2,
  i_al 27 0,
  i_nw 28 4 4 [.null, .null, .null, .int 0] 100 43636,
  i_dup 29,
  i_al 30 0,
  i_get 31 9 0,
  i_al 32 1,
  i_callV 33 3 4 (ri_Ev l y4_init w4_init r4_init 49 12864) 49 12864 100 43636,
  i_put 34 9 2 ri_isR,
  i_al 35 0,
  i_nw 36 6 5 [.null, .null, .null, .null, .null] 100 43636,
  i_dup 37,
  i_al 38 0,
  i_get 39 9 0,
  i_al 40 0,
  i_get 41 9 2,
  i_al 42 1,
  i_al 43 2,
  i_callV 44 5 6 (ri_Ev l y6_init w6_init r6_init 3 803) 3 803 100 43636,
  i_put 45 9 3 ri_isR,
  i_al 46 0,
  i_nw 47 8 15 [.null, .null, .null, .null, .null, .null, .null, .null, .int 0, .null, .null, .null, .null, .int 0, .int 0] 100 43636,
  i_dup 48,
  i_al 49 0,
  i_get 50 9 0,
  i_al 51 0,
  i_get 52 9 2,
  i_al 53 2,
  i_nw 54 7 2 [.null, .null] 100 43636,
  i_dup 55,
  i_al 56 0,
  i_get 57 9 0,
  i_al 58 0,
  i_get 59 9 1,
  i_callV 60 3 7 (ri_Ev l y7_init w7_init r7_init 0 0) 0 0 100 43636,
  i_callV 61 5 8 (ri_Ev l y8_init w8_init r8_init 24 29388) 24 29388 100 43636,
  i_put 62 9 4 ri_isR,
  i_vret Po 100 43636]
set_option maxRecDepth 20000 in
set_option maxHeartbeats 4000000 in
theorem z9_init (l : Launch) (Po : ri_O) (p : Program) (e : Env) (s : State) (m : MethodId) (args : Array Value) (below : List Frame) (meth : Method) (c : Code) (D : va_G) (ka : Nat → ClassId) (sa : Nat → Nat) (base : Nat) (X : ri_X p s m args c c9_init 3 w9_init "ChoraleSearch" D ka sa base) (hret : meth.sig.returnType = none) (hlocks : meth.locks = false) (hname : meth.name = "<init>") : ri_clo (ri_W p l e r9_init s m args below meth c D ka sa base 3 (MQ below (ri_Qc D ka sa base Po) args s 100 43636 (fun q => base ≤ q)) p9_init) (t9_init l Po) := by
  refine ri_clo_of ?_
  unfold t9_init
  exact ⟨s_aload_n X d9_init_0 rfl rfl,
    s_oi X (List.mem_cons_of_mem _ mgw_21) (List.mem_cons_of_mem _ mgw_22) (List.mem_cons_of_mem _ mgw_23) d9_init_1 rfl,
    s_aload_n X d9_init_4 rfl rfl,
    s_new X (ci := 0) rfl (fun w h => List.mem_cons_of_mem _ (uC_0 w h)) tC_0 oC_0 fC_0 rfl (List.mem_cons_of_mem _ mgw_24) (List.mem_cons_of_mem _ mgw_25) (List.mem_cons_of_mem _ mgw_2) d9_init_5 rfl,
    s_dup X d9_init_8 rfl,
    s_callIN ri_NW_ok X (na := 0) (ci := 0) rfl ⟨ri_cN X 0 mgw_28 (List.mem_cons_of_mem _ mgw_2) (List.mem_of_getElem? (i := 0) rfl) (by decide +kernel) rfl rfl ⟨by decide, by decide⟩, rfl, X.2.2.2.2.1 _ (List.mem_cons_of_mem _ mgw_27)⟩ d9_init_9 rfl,
    s_putF X (ci := 9) (f := 0) rfl (fun w h => List.mem_cons_of_mem _ (uC_9 w h)) (by decide) tC_9 oC_9 nC_9 rfl ri_ok_ref (List.mem_cons_of_mem _ mgw_325) hname rfl d9_init_12 rfl,
    s_aload_n X d9_init_15 rfl rfl,
    s_new X (ci := 1) rfl (fun w h => List.mem_cons_of_mem _ (uC_1 w h)) tC_1 oC_1 fC_1 rfl (List.mem_cons_of_mem _ mgw_80) (List.mem_cons_of_mem _ mgw_81) (List.mem_cons_of_mem _ mgw_3) d9_init_16 rfl,
    s_dup X d9_init_19 rfl,
    s_callIN ri_NW_ok X (na := 0) (ci := 1) rfl ⟨ri_cN X 0 mgw_84 (List.mem_cons_of_mem _ mgw_3) (List.mem_of_getElem? (i := 17) rfl) (by decide +kernel) rfl rfl ⟨by decide, by decide⟩, rfl, X.2.2.2.2.1 _ (List.mem_cons_of_mem _ mgw_83)⟩ d9_init_20 rfl,
    s_putF X (ci := 9) (f := 1) rfl (fun w h => List.mem_cons_of_mem _ (uC_9 w h)) (by decide) tC_9 oC_9 nC_9 rfl ri_ok_ref (List.mem_cons_of_mem _ mgw_326) hname rfl d9_init_23 rfl,
    s_new X (ci := 2) rfl (fun w h => List.mem_cons_of_mem _ (uC_2 w h)) tC_2 oC_2 fC_2 rfl (List.mem_cons_of_mem _ mgw_141) (List.mem_cons_of_mem _ mgw_142) (List.mem_cons_of_mem _ mgw_5) d9_init_26 rfl,
    s_dup X d9_init_29 rfl,
    s_aload_n X d9_init_30 rfl rfl,
    s_get X (ci := 9) (f := 0) rfl (fun w h => List.mem_cons_of_mem _ (uC_9 w h)) (by decide) (List.mem_cons_of_mem _ mgw_325) d9_init_31 rfl,
    s_aload_n X d9_init_34 rfl rfl,
    s_get X (ci := 9) (f := 1) rfl (fun w h => List.mem_cons_of_mem _ (uC_9 w h)) (by decide) (List.mem_cons_of_mem _ mgw_326) d9_init_35 rfl,
    s_callIN ri_NW_ok X (na := 2) (ci := 2) rfl ⟨ri_cN X 2 mgw_145 (List.mem_cons_of_mem _ mgw_5) (List.mem_of_getElem? (i := 22) rfl) (by decide +kernel) rfl rfl ⟨by decide, by decide⟩, rfl, X.2.2.2.2.1 _ (List.mem_cons_of_mem _ mgw_144)⟩ d9_init_38 rfl,
    s_astore_n X d9_init_41 rfl (by decide) rfl,
    s_new X (ci := 3) rfl (fun w h => List.mem_cons_of_mem _ (uC_3 w h)) tC_3 oC_3 fC_3 rfl (List.mem_cons_of_mem _ mgw_163) (List.mem_cons_of_mem _ mgw_164) (List.mem_cons_of_mem _ mgw_6) d9_init_42 rfl,
    s_dup X d9_init_45 rfl,
    s_aload_n X d9_init_46 rfl rfl,
    s_get X (ci := 9) (f := 1) rfl (fun w h => List.mem_cons_of_mem _ (uC_9 w h)) (by decide) (List.mem_cons_of_mem _ mgw_326) d9_init_47 rfl,
    s_callIN ri_NW_ok X (na := 1) (ci := 3) rfl ⟨ri_cN X 1 mgw_167 (List.mem_cons_of_mem _ mgw_6) (List.mem_of_getElem? (i := 23) rfl) (by decide +kernel) rfl rfl ⟨by decide, by decide⟩, rfl, X.2.2.2.2.1 _ (List.mem_cons_of_mem _ mgw_166)⟩ d9_init_50 rfl,
    s_astore_n X d9_init_53 rfl (by decide) rfl,
    s_aload_n X d9_init_54 rfl rfl,
    s_new X (ci := 4) rfl (fun w h => List.mem_cons_of_mem _ (uC_4 w h)) tC_4 oC_4 fC_4 rfl (List.mem_cons_of_mem _ mgw_185) (List.mem_cons_of_mem _ mgw_186) (List.mem_cons_of_mem _ mgw_7) d9_init_55 rfl,
    s_dup X d9_init_58 rfl,
    s_aload_n X d9_init_59 rfl rfl,
    s_get X (ci := 9) (f := 0) rfl (fun w h => List.mem_cons_of_mem _ (uC_9 w h)) (by decide) (List.mem_cons_of_mem _ mgw_325) d9_init_60 rfl,
    s_aload_n X d9_init_63 rfl rfl,
    s_callIN ri_NW_ok X (na := 2) (ci := 4) rfl ⟨ri_cN X 2 mgw_189 (List.mem_cons_of_mem _ mgw_7) (List.mem_of_getElem? (i := 24) rfl) (by decide +kernel) rfl rfl ⟨by decide, by decide⟩, rfl, X.2.2.2.2.1 _ (List.mem_cons_of_mem _ mgw_188)⟩ d9_init_64 rfl,
    s_putF X (ci := 9) (f := 2) rfl (fun w h => List.mem_cons_of_mem _ (uC_9 w h)) (by decide) tC_9 oC_9 nC_9 rfl ri_ok_ref (List.mem_cons_of_mem _ mgw_327) hname rfl d9_init_67 rfl,
    s_aload_n X d9_init_70 rfl rfl,
    s_new X (ci := 6) rfl (fun w h => List.mem_cons_of_mem _ (uC_6 w h)) tC_6 oC_6 fC_6 rfl (List.mem_cons_of_mem _ mgw_231) (List.mem_cons_of_mem _ mgw_232) (List.mem_cons_of_mem _ mgw_9) d9_init_71 rfl,
    s_dup X d9_init_74 rfl,
    s_aload_n X d9_init_75 rfl rfl,
    s_get X (ci := 9) (f := 0) rfl (fun w h => List.mem_cons_of_mem _ (uC_9 w h)) (by decide) (List.mem_cons_of_mem _ mgw_325) d9_init_76 rfl,
    s_aload_n X d9_init_79 rfl rfl,
    s_get X (ci := 9) (f := 2) rfl (fun w h => List.mem_cons_of_mem _ (uC_9 w h)) (by decide) (List.mem_cons_of_mem _ mgw_327) d9_init_80 rfl,
    s_aload_n X d9_init_83 rfl rfl,
    s_aload_n X d9_init_84 rfl rfl,
    s_callIN ri_NW_ok X (na := 4) (ci := 6) rfl ⟨ri_cN X 4 mgw_235 (List.mem_cons_of_mem _ mgw_9) (List.mem_of_getElem? (i := 36) rfl) (by decide +kernel) rfl rfl ⟨by decide, by decide⟩, rfl, X.2.2.2.2.1 _ (List.mem_cons_of_mem _ mgw_234)⟩ d9_init_85 rfl,
    s_putF X (ci := 9) (f := 3) rfl (fun w h => List.mem_cons_of_mem _ (uC_9 w h)) (by decide) tC_9 oC_9 nC_9 rfl ri_ok_ref (List.mem_cons_of_mem _ mgw_328) hname rfl d9_init_88 rfl,
    s_aload_n X d9_init_91 rfl rfl,
    s_new X (ci := 8) rfl (fun w h => List.mem_cons_of_mem _ (uC_8 w h)) tC_8 oC_8 fC_8 rfl (List.mem_cons_of_mem _ mgw_255) (List.mem_cons_of_mem _ mgw_256) (List.mem_cons_of_mem _ mgw_10) d9_init_92 rfl,
    s_dup X d9_init_95 rfl,
    s_aload_n X d9_init_96 rfl rfl,
    s_get X (ci := 9) (f := 0) rfl (fun w h => List.mem_cons_of_mem _ (uC_9 w h)) (by decide) (List.mem_cons_of_mem _ mgw_325) d9_init_97 rfl,
    s_aload_n X d9_init_100 rfl rfl,
    s_get X (ci := 9) (f := 2) rfl (fun w h => List.mem_cons_of_mem _ (uC_9 w h)) (by decide) (List.mem_cons_of_mem _ mgw_327) d9_init_101 rfl,
    s_aload_n X d9_init_104 rfl rfl,
    s_new X (ci := 7) rfl (fun w h => List.mem_cons_of_mem _ (uC_7 w h)) tC_7 oC_7 fC_7 rfl (List.mem_cons_of_mem _ mgw_257) (List.mem_cons_of_mem _ mgw_258) (List.mem_cons_of_mem _ mgw_11) d9_init_105 rfl,
    s_dup X d9_init_108 rfl,
    s_aload_n X d9_init_109 rfl rfl,
    s_get X (ci := 9) (f := 0) rfl (fun w h => List.mem_cons_of_mem _ (uC_9 w h)) (by decide) (List.mem_cons_of_mem _ mgw_325) d9_init_110 rfl,
    s_aload_n X d9_init_113 rfl rfl,
    s_get X (ci := 9) (f := 1) rfl (fun w h => List.mem_cons_of_mem _ (uC_9 w h)) (by decide) (List.mem_cons_of_mem _ mgw_326) d9_init_114 rfl,
    s_callIN ri_NW_ok X (na := 2) (ci := 7) rfl ⟨ri_cN X 2 mgw_261 (List.mem_cons_of_mem _ mgw_11) (List.mem_of_getElem? (i := 38) rfl) (by decide +kernel) rfl rfl ⟨by decide, by decide⟩, rfl, X.2.2.2.2.1 _ (List.mem_cons_of_mem _ mgw_260)⟩ d9_init_117 rfl,
    s_callIN ri_NW_ok X (na := 4) (ci := 8) rfl ⟨ri_cN X 4 mgw_272 (List.mem_cons_of_mem _ mgw_10) (List.mem_of_getElem? (i := 39) rfl) (by decide +kernel) rfl rfl ⟨by decide, by decide⟩, rfl, X.2.2.2.2.1 _ (List.mem_cons_of_mem _ mgw_271)⟩ d9_init_120 rfl,
    s_putF X (ci := 9) (f := 4) rfl (fun w h => List.mem_cons_of_mem _ (uC_9 w h)) (by decide) tC_9 oC_9 nC_9 rfl ri_ok_ref (List.mem_cons_of_mem _ mgw_329) hname rfl d9_init_123 rfl,
    s_vret X hret hlocks d9_init_126, trivial⟩
theorem d9_key_0 : decode c9_key 0 = .ok (.iload_n 1, 1) := by decide +kernel
theorem d9_key_1 : decode c9_key 1 = .ok (.ifCond .lt 18, 3) := by decide +kernel
theorem d9_key_4 : decode c9_key 4 = .ok (.iload_n 1, 1) := by decide +kernel
theorem d9_key_5 : decode c9_key 5 = .ok (.bipush 12, 2) := by decide +kernel
theorem d9_key_7 : decode c9_key 7 = .ok (.if_icmp .ge 12, 3) := by decide +kernel
theorem d9_key_10 : decode c9_key 10 = .ok (.iload_n 2, 1) := by decide +kernel
theorem d9_key_11 : decode c9_key 11 = .ok (.ifCond .lt 8, 3) := by decide +kernel
theorem d9_key_14 : decode c9_key 14 = .ok (.iload_n 2, 1) := by decide +kernel
theorem d9_key_15 : decode c9_key 15 = .ok (.iconst 1, 1) := by decide +kernel
theorem d9_key_16 : decode c9_key 16 = .ok (.if_icmp .le 5, 3) := by decide +kernel
theorem d9_key_19 : decode c9_key 19 = .ok (.iconst (-1), 1) := by decide +kernel
theorem d9_key_20 : decode c9_key 20 = .ok (.ireturn, 1) := by decide +kernel
theorem d9_key_21 : decode c9_key 21 = .ok (.aload_n 0, 1) := by decide +kernel
theorem d9_key_22 : decode c9_key 22 = .ok (.getfield 19, 3) := by decide +kernel
theorem d9_key_25 : decode c9_key 25 = .ok (.iload_n 1, 1) := by decide +kernel
theorem d9_key_26 : decode c9_key 26 = .ok (.iload_n 2, 1) := by decide +kernel
theorem d9_key_27 : decode c9_key 27 = .ok (.invokevirtual 63, 3) := by decide +kernel
theorem d9_key_30 : decode c9_key 30 = .ok (.aload_n 0, 1) := by decide +kernel
theorem d9_key_31 : decode c9_key 31 = .ok (.invokevirtual 67, 3) := by decide +kernel
theorem d9_key_34 : decode c9_key 34 = .ok (.iconst 1, 1) := by decide +kernel
theorem d9_key_35 : decode c9_key 35 = .ok (.ireturn, 1) := by decide +kernel
def t9_key (l : Launch) (Po : ri_O) : List ri_S := [i_il 1 1,
  i_if 2 10 (fun x => x < 0),
  i_il 3 1,
  i_con 4 12,
  i_icmp 5 10 (fun x y => y ≤ x),
  i_il 6 2,
  i_if 7 10 (fun x => x < 0),
  i_il 8 2,
  i_con 9 1,
  i_icmp 10 12 (fun x y => x ≤ y),
  i_con 11 (-1),
  i_ret Po 0 0,
  i_al 13 0,
  i_get 14 9 1,
  i_il 15 1,
  i_il 16 2,
  i_callV 17 3 1 (ri_Ev l y1_tune w1_tune r1_tune 0 0) 0 0 0 0,
  i_al 18 0,
  i_callV 19 1 9 (ri_Ev l y9_forgetFound w9_forgetFound r9_forgetFound 0 0) 0 0 0 0,
  i_con 20 1,
  i_ret Po 0 0]
set_option maxRecDepth 20000 in
set_option maxHeartbeats 4000000 in
theorem z9_key (l : Launch) (Po : ri_O) (p : Program) (e : Env) (s : State) (m : MethodId) (args : Array Value) (below : List Frame) (meth : Method) (c : Code) (D : va_G) (ka : Nat → ClassId) (sa : Nat → Nat) (base : Nat) (X : ri_X p s m args c c9_key 3 w9_key "ChoraleSearch" D ka sa base) (hret : meth.sig.returnType = (some .int)) (hlocks : meth.locks = false) (hname : meth.name = "key") : ri_clo (ri_W p l e r9_key s m args below meth c D ka sa base 3 (MQ below (ri_Qc D ka sa base Po) args s 0 0 (fun q => base ≤ q)) p9_key) (t9_key l Po) := by
  refine ri_clo_of ?_
  unfold t9_key
  exact ⟨s_iload_n X d9_key_0 rfl rfl,
    s_if_lt X d9_key_1 rfl rfl,
    s_iload_n X d9_key_4 rfl rfl,
    s_bipush X d9_key_5 rfl rfl,
    s_icmp_ge X d9_key_7 rfl rfl,
    s_iload_n X d9_key_10 rfl rfl,
    s_if_lt X d9_key_11 rfl rfl,
    s_iload_n X d9_key_14 rfl rfl,
    s_iconst X d9_key_15 rfl rfl,
    s_icmp_le X d9_key_16 rfl rfl,
    s_iconst X d9_key_19 rfl rfl,
    s_iret X hret hlocks d9_key_20,
    s_aload_n X d9_key_21 rfl rfl,
    s_get X (ci := 9) (f := 1) rfl (fun w h => List.mem_cons_of_mem _ (uC_9 w h)) (by decide) (List.mem_cons_of_mem _ mgw_326) d9_key_22 rfl,
    s_iload_n X d9_key_25 rfl rfl,
    s_iload_n X d9_key_26 rfl rfl,
    s_callVN ri_NW_ok X (na := 2) (ci := 1) rfl ⟨ri_cN X 2 mgw_103 (List.mem_cons_of_mem _ mgw_3) (List.mem_of_getElem? (i := 43) rfl) (by decide +kernel) rfl rfl ⟨by decide, by decide⟩, X.2.2.2.2.1 _ (List.mem_cons_of_mem _ mgw_102), X.2.2.2.2.1 _ (List.mem_cons_of_mem _ mgp_1)⟩ d9_key_27 rfl,
    s_aload_n X d9_key_30 rfl rfl,
    s_callV ri_NW_ok X (na := 0) (ci := 9) rfl ⟨ri_cB X 0 mgw_349 (List.mem_cons_of_mem _ mgw_1) (List.mem_cons_of_mem _ mgw_346) (by decide +kernel) rfl rfl ⟨by decide, by decide⟩, X.2.2.2.2.1 _ (List.mem_cons_of_mem _ mgw_348), X.2.2.2.2.1 _ (List.mem_cons_of_mem _ mgp_3)⟩ d9_key_31 rfl,
    s_iconst X d9_key_34 rfl rfl,
    s_iret X hret hlocks d9_key_35, trivial⟩
theorem d9_forgetFound_0 : decode c9_forgetFound 0 = .ok (.aload_n 0, 1) := by decide +kernel
theorem d9_forgetFound_1 : decode c9_forgetFound 1 = .ok (.getfield 59, 3) := by decide +kernel
theorem d9_forgetFound_4 : decode c9_forgetFound 4 = .ok (.invokevirtual 204, 3) := by decide +kernel
theorem d9_forgetFound_7 : decode c9_forgetFound 7 = .ok (.aload_n 0, 1) := by decide +kernel
theorem d9_forgetFound_8 : decode c9_forgetFound 8 = .ok (.getfield 38, 3) := by decide +kernel
theorem d9_forgetFound_11 : decode c9_forgetFound 11 = .ok (.invokevirtual 207, 3) := by decide +kernel
theorem d9_forgetFound_14 : decode c9_forgetFound 14 = .ok (.return_, 1) := by decide +kernel
def t9_forgetFound (l : Launch) (Po : ri_O) : List ri_S := [i_al 1 0,
  i_get 2 9 4,
  i_callV 3 1 8 (ri_Ev l y8_forget w8_forget r8_forget 0 0) 0 0 0 0,
  i_al 4 0,
  i_get 5 9 2,
  i_callV 6 1 4 (ri_Ev l y4_spoil w4_spoil r4_spoil 0 0) 0 0 0 0,
  i_vret Po 0 0]
set_option maxRecDepth 20000 in
set_option maxHeartbeats 4000000 in
theorem z9_forgetFound (l : Launch) (Po : ri_O) (p : Program) (e : Env) (s : State) (m : MethodId) (args : Array Value) (below : List Frame) (meth : Method) (c : Code) (D : va_G) (ka : Nat → ClassId) (sa : Nat → Nat) (base : Nat) (X : ri_X p s m args c c9_forgetFound 1 w9_forgetFound "ChoraleSearch" D ka sa base) (hret : meth.sig.returnType = none) (hlocks : meth.locks = false) (hname : meth.name = "forgetFound") : ri_clo (ri_W p l e r9_forgetFound s m args below meth c D ka sa base 1 (MQ below (ri_Qc D ka sa base Po) args s 0 0 (fun q => base ≤ q)) p9_forgetFound) (t9_forgetFound l Po) := by
  refine ri_clo_of ?_
  unfold t9_forgetFound
  exact ⟨s_aload_n X d9_forgetFound_0 rfl rfl,
    s_get X (ci := 9) (f := 4) rfl (fun w h => List.mem_cons_of_mem _ (uC_9 w h)) (by decide) (List.mem_cons_of_mem _ mgw_329) d9_forgetFound_1 rfl,
    s_callVN ri_NW_ok X (na := 0) (ci := 8) rfl ⟨ri_cN X 0 mgw_353 (List.mem_cons_of_mem _ mgw_10) (List.mem_of_getElem? (i := 44) rfl) (by decide +kernel) rfl rfl ⟨by decide, by decide⟩, X.2.2.2.2.1 _ (List.mem_cons_of_mem _ mgw_352), X.2.2.2.2.1 _ (List.mem_cons_of_mem _ mgp_4)⟩ d9_forgetFound_4 rfl,
    s_aload_n X d9_forgetFound_7 rfl rfl,
    s_get X (ci := 9) (f := 2) rfl (fun w h => List.mem_cons_of_mem _ (uC_9 w h)) (by decide) (List.mem_cons_of_mem _ mgw_327) d9_forgetFound_8 rfl,
    s_callVN ri_NW_ok X (na := 0) (ci := 4) rfl ⟨ri_cN X 0 mgw_357 (List.mem_cons_of_mem _ mgw_7) (List.mem_of_getElem? (i := 45) rfl) (by decide +kernel) rfl rfl ⟨by decide, by decide⟩, X.2.2.2.2.1 _ (List.mem_cons_of_mem _ mgw_356), X.2.2.2.2.1 _ (List.mem_cons_of_mem _ mgp_5)⟩ d9_forgetFound_11 rfl,
    s_vret X hret hlocks d9_forgetFound_14, trivial⟩
theorem d9_places_0 : decode c9_places 0 = .ok (.iload_n 1, 1) := by decide +kernel
theorem d9_places_1 : decode c9_places 1 = .ok (.iconst 1, 1) := by decide +kernel
theorem d9_places_2 : decode c9_places 2 = .ok (.if_icmp .lt 9, 3) := by decide +kernel
theorem d9_places_5 : decode c9_places 5 = .ok (.iload_n 1, 1) := by decide +kernel
theorem d9_places_6 : decode c9_places 6 = .ok (.bipush 16, 2) := by decide +kernel
theorem d9_places_8 : decode c9_places 8 = .ok (.if_icmp .le 5, 3) := by decide +kernel
theorem d9_places_11 : decode c9_places 11 = .ok (.iconst (-1), 1) := by decide +kernel
theorem d9_places_12 : decode c9_places 12 = .ok (.ireturn, 1) := by decide +kernel
theorem d9_places_13 : decode c9_places 13 = .ok (.aload_n 0, 1) := by decide +kernel
theorem d9_places_14 : decode c9_places 14 = .ok (.getfield 10, 3) := by decide +kernel
theorem d9_places_17 : decode c9_places 17 = .ok (.getfield 70, 3) := by decide +kernel
theorem d9_places_20 : decode c9_places 20 = .ok (.istore_n 2, 1) := by decide +kernel
theorem d9_places_21 : decode c9_places 21 = .ok (.aload_n 0, 1) := by decide +kernel
theorem d9_places_22 : decode c9_places 22 = .ok (.getfield 10, 3) := by decide +kernel
theorem d9_places_25 : decode c9_places 25 = .ok (.iload_n 1, 1) := by decide +kernel
theorem d9_places_26 : decode c9_places 26 = .ok (.putfield 70, 3) := by decide +kernel
theorem d9_places_29 : decode c9_places 29 = .ok (.aload_n 0, 1) := by decide +kernel
theorem d9_places_30 : decode c9_places 30 = .ok (.getfield 10, 3) := by decide +kernel
theorem d9_places_33 : decode c9_places 33 = .ok (.iload_n 1, 1) := by decide +kernel
theorem d9_places_34 : decode c9_places 34 = .ok (.invokevirtual 74, 3) := by decide +kernel
theorem d9_places_37 : decode c9_places 37 = .ok (.aload_n 0, 1) := by decide +kernel
theorem d9_places_38 : decode c9_places 38 = .ok (.invokevirtual 67, 3) := by decide +kernel
theorem d9_places_41 : decode c9_places 41 = .ok (.iload_n 2, 1) := by decide +kernel
theorem d9_places_42 : decode c9_places 42 = .ok (.ireturn, 1) := by decide +kernel
def t9_places (l : Launch) (Po : ri_O) : List ri_S := [i_il 1 1,
  i_con 2 1,
  i_icmp 3 6 (fun x y => x < y),
  i_il 4 1,
  i_con 5 16,
  i_icmp 6 8 (fun x y => x ≤ y),
  i_con 7 (-1),
  i_ret Po 0 0,
  i_al 9 0,
  i_get 10 9 0,
  i_get 11 0 0,
  i_is 12 2,
  i_al 13 0,
  i_get 14 9 0,
  i_il 15 1,
  i_put 16 0 0 ri_isI,
  i_al 17 0,
  i_get 18 9 0,
  i_il 19 1,
  i_callV 20 2 0 (ri_Ev l y0_clearFrom w0_clearFrom r0_clearFrom 0 0) 0 0 0 0,
  i_al 21 0,
  i_callV 22 1 9 (ri_Ev l y9_forgetFound w9_forgetFound r9_forgetFound 0 0) 0 0 0 0,
  i_il 23 2,
  i_ret Po 0 0]
set_option maxRecDepth 20000 in
set_option maxHeartbeats 4000000 in
theorem z9_places (l : Launch) (Po : ri_O) (p : Program) (e : Env) (s : State) (m : MethodId) (args : Array Value) (below : List Frame) (meth : Method) (c : Code) (D : va_G) (ka : Nat → ClassId) (sa : Nat → Nat) (base : Nat) (X : ri_X p s m args c c9_places 3 w9_places "ChoraleSearch" D ka sa base) (hret : meth.sig.returnType = (some .int)) (hlocks : meth.locks = false) (hname : meth.name = "places") : ri_clo (ri_W p l e r9_places s m args below meth c D ka sa base 3 (MQ below (ri_Qc D ka sa base Po) args s 0 0 (fun q => base ≤ q)) p9_places) (t9_places l Po) := by
  refine ri_clo_of ?_
  unfold t9_places
  exact ⟨s_iload_n X d9_places_0 rfl rfl,
    s_iconst X d9_places_1 rfl rfl,
    s_icmp_lt X d9_places_2 rfl rfl,
    s_iload_n X d9_places_5 rfl rfl,
    s_bipush X d9_places_6 rfl rfl,
    s_icmp_le X d9_places_8 rfl rfl,
    s_iconst X d9_places_11 rfl rfl,
    s_iret X hret hlocks d9_places_12,
    s_aload_n X d9_places_13 rfl rfl,
    s_get X (ci := 9) (f := 0) rfl (fun w h => List.mem_cons_of_mem _ (uC_9 w h)) (by decide) (List.mem_cons_of_mem _ mgw_325) d9_places_14 rfl,
    s_getN X (ci := 0) (f := 0) rfl (fun w h => List.mem_cons_of_mem _ (uC_0 w h)) (by decide) (List.mem_of_getElem? (i := 3) rfl) d9_places_17 rfl,
    s_istore_n X d9_places_20 rfl (by decide) rfl,
    s_aload_n X d9_places_21 rfl rfl,
    s_get X (ci := 9) (f := 0) rfl (fun w h => List.mem_cons_of_mem _ (uC_9 w h)) (by decide) (List.mem_cons_of_mem _ mgw_325) d9_places_22 rfl,
    s_iload_n X d9_places_25 rfl rfl,
    s_putN X (ci := 0) (f := 0) rfl (fun w h => List.mem_cons_of_mem _ (uC_0 w h)) (by decide) tC_0 oC_0 nC_0 rfl ri_ok_int (List.mem_of_getElem? (i := 3) rfl) d9_places_26 rfl,
    s_aload_n X d9_places_29 rfl rfl,
    s_get X (ci := 9) (f := 0) rfl (fun w h => List.mem_cons_of_mem _ (uC_9 w h)) (by decide) (List.mem_cons_of_mem _ mgw_325) d9_places_30 rfl,
    s_iload_n X d9_places_33 rfl rfl,
    s_callVN ri_NW_ok X (na := 1) (ci := 0) rfl ⟨ri_cN X 1 mgw_33 (List.mem_cons_of_mem _ mgw_2) (List.mem_of_getElem? (i := 46) rfl) (by decide +kernel) rfl rfl ⟨by decide, by decide⟩, X.2.2.2.2.1 _ (List.mem_cons_of_mem _ mgw_32), X.2.2.2.2.1 _ (List.mem_cons_of_mem _ mgp_0)⟩ d9_places_34 rfl,
    s_aload_n X d9_places_37 rfl rfl,
    s_callV ri_NW_ok X (na := 0) (ci := 9) rfl ⟨ri_cB X 0 mgw_349 (List.mem_cons_of_mem _ mgw_1) (List.mem_cons_of_mem _ mgw_346) (by decide +kernel) rfl rfl ⟨by decide, by decide⟩, X.2.2.2.2.1 _ (List.mem_cons_of_mem _ mgw_348), X.2.2.2.2.1 _ (List.mem_cons_of_mem _ mgp_3)⟩ d9_places_38 rfl,
    s_iload_n X d9_places_41 rfl rfl,
    s_iret X hret hlocks d9_places_42, trivial⟩
theorem d9_given_0 : decode c9_given 0 = .ok (.iload_n 1, 1) := by decide +kernel
theorem d9_given_1 : decode c9_given 1 = .ok (.invokestatic 78, 3) := by decide +kernel
theorem d9_given_4 : decode c9_given 4 = .ok (.ifCond .eq 18, 3) := by decide +kernel
theorem d9_given_7 : decode c9_given 7 = .ok (.aload_n 0, 1) := by decide +kernel
theorem d9_given_8 : decode c9_given 8 = .ok (.iload_n 2, 1) := by decide +kernel
theorem d9_given_9 : decode c9_given 9 = .ok (.invokevirtual 82, 3) := by decide +kernel
theorem d9_given_12 : decode c9_given 12 = .ok (.ifCond .eq 10, 3) := by decide +kernel
theorem d9_given_15 : decode c9_given 15 = .ok (.iload_n 3, 1) := by decide +kernel
theorem d9_given_16 : decode c9_given 16 = .ok (.invokestatic 85, 3) := by decide +kernel
theorem d9_given_19 : decode c9_given 19 = .ok (.ifCond .ne 5, 3) := by decide +kernel
theorem d9_given_22 : decode c9_given 22 = .ok (.iconst (-1), 1) := by decide +kernel
theorem d9_given_23 : decode c9_given 23 = .ok (.ireturn, 1) := by decide +kernel
theorem d9_given_24 : decode c9_given 24 = .ok (.aload_n 0, 1) := by decide +kernel
theorem d9_given_25 : decode c9_given 25 = .ok (.iload_n 1, 1) := by decide +kernel
theorem d9_given_26 : decode c9_given 26 = .ok (.iload_n 2, 1) := by decide +kernel
theorem d9_given_27 : decode c9_given 27 = .ok (.iload_n 3, 1) := by decide +kernel
theorem d9_given_28 : decode c9_given 28 = .ok (.invokevirtual 88, 3) := by decide +kernel
theorem d9_given_31 : decode c9_given 31 = .ok (.ireturn, 1) := by decide +kernel
def t9_given (l : Launch) (Po : ri_O) : List ri_S := [i_il 1 1,
  i_call 2 1 (ri_Ev l y9_isVoice w9_isVoice r9_isVoice 0 0) 0 0 0 0,
  i_if 3 10 (fun x => x = 0),
  i_al 4 0,
  i_il 5 2,
  i_callV 6 2 9 (ri_Ev l y9_isPlace w9_isPlace r9_isPlace 0 0) 0 0 0 0,
  i_if 7 10 (fun x => x = 0),
  i_il 8 3,
  i_call 9 1 (ri_Ev l y9_isPitch w9_isPitch r9_isPitch 0 0) 0 0 0 0,
  i_if 10 12 (fun x => ¬ x = 0),
  i_con 11 (-1),
  i_ret Po 0 0,
  i_al 13 0,
  i_il 14 1,
  i_il 15 2,
  i_il 16 3,
  i_callV 17 4 9 (ri_Ev l y9_setPitch w9_setPitch r9_setPitch 0 0) 0 0 0 0,
  i_ret Po 0 0]
set_option maxRecDepth 20000 in
set_option maxHeartbeats 4000000 in
theorem z9_given (l : Launch) (Po : ri_O) (p : Program) (e : Env) (s : State) (m : MethodId) (args : Array Value) (below : List Frame) (meth : Method) (c : Code) (D : va_G) (ka : Nat → ClassId) (sa : Nat → Nat) (base : Nat) (X : ri_X p s m args c c9_given 4 w9_given "ChoraleSearch" D ka sa base) (hret : meth.sig.returnType = (some .int)) (hlocks : meth.locks = false) (hname : meth.name = "given") : ri_clo (ri_W p l e r9_given s m args below meth c D ka sa base 4 (MQ below (ri_Qc D ka sa base Po) args s 0 0 (fun q => base ≤ q)) p9_given) (t9_given l Po) := by
  refine ri_clo_of ?_
  unfold t9_given
  exact ⟨s_iload_n X d9_given_0 rfl rfl,
    s_callS ri_NW_ok X ⟨ri_cB X 1 mgw_369 (List.mem_cons_of_mem _ mgw_1) (List.mem_cons_of_mem _ mgw_367) (by decide +kernel) rfl rfl ⟨by decide, by decide⟩, X.2.2.2.2.1 _ (List.mem_cons_of_mem _ mgw_368)⟩ d9_given_1 rfl,
    s_if_eq X d9_given_4 rfl rfl,
    s_aload_n X d9_given_7 rfl rfl,
    s_iload_n X d9_given_8 rfl rfl,
    s_callV ri_NW_ok X (na := 1) (ci := 9) rfl ⟨ri_cB X 1 mgw_373 (List.mem_cons_of_mem _ mgw_1) (List.mem_cons_of_mem _ mgw_370) (by decide +kernel) rfl rfl ⟨by decide, by decide⟩, X.2.2.2.2.1 _ (List.mem_cons_of_mem _ mgw_372), X.2.2.2.2.1 _ (List.mem_cons_of_mem _ mgp_6)⟩ d9_given_9 rfl,
    s_if_eq X d9_given_12 rfl rfl,
    s_iload_n X d9_given_15 rfl rfl,
    s_callS ri_NW_ok X ⟨ri_cB X 1 mgw_376 (List.mem_cons_of_mem _ mgw_1) (List.mem_cons_of_mem _ mgw_374) (by decide +kernel) rfl rfl ⟨by decide, by decide⟩, X.2.2.2.2.1 _ (List.mem_cons_of_mem _ mgw_375)⟩ d9_given_16 rfl,
    s_if_ne X d9_given_19 rfl rfl,
    s_iconst X d9_given_22 rfl rfl,
    s_iret X hret hlocks d9_given_23,
    s_aload_n X d9_given_24 rfl rfl,
    s_iload_n X d9_given_25 rfl rfl,
    s_iload_n X d9_given_26 rfl rfl,
    s_iload_n X d9_given_27 rfl rfl,
    s_callV ri_NW_ok X (na := 3) (ci := 9) rfl ⟨ri_cB X 3 mgw_380 (List.mem_cons_of_mem _ mgw_1) (List.mem_cons_of_mem _ mgw_377) (by decide +kernel) rfl rfl ⟨by decide, by decide⟩, X.2.2.2.2.1 _ (List.mem_cons_of_mem _ mgw_379), X.2.2.2.2.1 _ (List.mem_cons_of_mem _ mgp_7)⟩ d9_given_28 rfl,
    s_iret X hret hlocks d9_given_31, trivial⟩
theorem d9_isVoice_0 : decode c9_isVoice 0 = .ok (.iload_n 0, 1) := by decide +kernel
theorem d9_isVoice_1 : decode c9_isVoice 1 = .ok (.ifCond .lt 12, 3) := by decide +kernel
theorem d9_isVoice_4 : decode c9_isVoice 4 = .ok (.iload_n 0, 1) := by decide +kernel
theorem d9_isVoice_5 : decode c9_isVoice 5 = .ok (.iconst 4, 1) := by decide +kernel
theorem d9_isVoice_6 : decode c9_isVoice 6 = .ok (.if_icmp .ge 7, 3) := by decide +kernel
theorem d9_isVoice_9 : decode c9_isVoice 9 = .ok (.iconst 1, 1) := by decide +kernel
theorem d9_isVoice_10 : decode c9_isVoice 10 = .ok (.goto 4, 3) := by decide +kernel
theorem d9_isVoice_13 : decode c9_isVoice 13 = .ok (.iconst 0, 1) := by decide +kernel
theorem d9_isVoice_14 : decode c9_isVoice 14 = .ok (.ireturn, 1) := by decide +kernel
def t9_isVoice (l : Launch) (Po : ri_O) : List ri_S := [i_il 1 0,
  i_if 2 7 (fun x => x < 0),
  i_il 3 0,
  i_con 4 4,
  i_icmp 5 7 (fun x y => y ≤ x),
  i_con 6 1,
  i_goto 8,
  i_con 8 0,
  i_zret Po 0 0]
set_option maxRecDepth 20000 in
set_option maxHeartbeats 4000000 in
theorem z9_isVoice (l : Launch) (Po : ri_O) (p : Program) (e : Env) (s : State) (m : MethodId) (args : Array Value) (below : List Frame) (meth : Method) (c : Code) (D : va_G) (ka : Nat → ClassId) (sa : Nat → Nat) (base : Nat) (X : ri_X p s m args c c9_isVoice 1 w9_isVoice "ChoraleSearch" D ka sa base) (hret : meth.sig.returnType = (some .boolean)) (hlocks : meth.locks = false) (hname : meth.name = "isVoice") : ri_clo (ri_W p l e r9_isVoice s m args below meth c D ka sa base 1 (MQ below (ri_Qc D ka sa base Po) args s 0 0 (fun q => base ≤ q)) p9_isVoice) (t9_isVoice l Po) := by
  refine ri_clo_of ?_
  unfold t9_isVoice
  exact ⟨s_iload_n X d9_isVoice_0 rfl rfl,
    s_if_lt X d9_isVoice_1 rfl rfl,
    s_iload_n X d9_isVoice_4 rfl rfl,
    s_iconst X d9_isVoice_5 rfl rfl,
    s_icmp_ge X d9_isVoice_6 rfl rfl,
    s_iconst X d9_isVoice_9 rfl rfl,
    s_goto X d9_isVoice_10 rfl,
    s_iconst X d9_isVoice_13 rfl rfl,
    s_zret X hret hlocks d9_isVoice_14, trivial⟩
theorem d9_isPlace_0 : decode c9_isPlace 0 = .ok (.iload_n 1, 1) := by decide +kernel
theorem d9_isPlace_1 : decode c9_isPlace 1 = .ok (.ifCond .lt 18, 3) := by decide +kernel
theorem d9_isPlace_4 : decode c9_isPlace 4 = .ok (.iload_n 1, 1) := by decide +kernel
theorem d9_isPlace_5 : decode c9_isPlace 5 = .ok (.aload_n 0, 1) := by decide +kernel
theorem d9_isPlace_6 : decode c9_isPlace 6 = .ok (.getfield 10, 3) := by decide +kernel
theorem d9_isPlace_9 : decode c9_isPlace 9 = .ok (.getfield 70, 3) := by decide +kernel
theorem d9_isPlace_12 : decode c9_isPlace 12 = .ok (.if_icmp .ge 7, 3) := by decide +kernel
theorem d9_isPlace_15 : decode c9_isPlace 15 = .ok (.iconst 1, 1) := by decide +kernel
theorem d9_isPlace_16 : decode c9_isPlace 16 = .ok (.goto 4, 3) := by decide +kernel
theorem d9_isPlace_19 : decode c9_isPlace 19 = .ok (.iconst 0, 1) := by decide +kernel
theorem d9_isPlace_20 : decode c9_isPlace 20 = .ok (.ireturn, 1) := by decide +kernel
def t9_isPlace (l : Launch) (Po : ri_O) : List ri_S := [i_il 1 1,
  i_if 2 9 (fun x => x < 0),
  i_il 3 1,
  i_al 4 0,
  i_get 5 9 0,
  i_get 6 0 0,
  i_icmp 7 9 (fun x y => y ≤ x),
  i_con 8 1,
  i_goto 10,
  i_con 10 0,
  i_zret Po 0 0]
set_option maxRecDepth 20000 in
set_option maxHeartbeats 4000000 in
theorem z9_isPlace (l : Launch) (Po : ri_O) (p : Program) (e : Env) (s : State) (m : MethodId) (args : Array Value) (below : List Frame) (meth : Method) (c : Code) (D : va_G) (ka : Nat → ClassId) (sa : Nat → Nat) (base : Nat) (X : ri_X p s m args c c9_isPlace 2 w9_isPlace "ChoraleSearch" D ka sa base) (hret : meth.sig.returnType = (some .boolean)) (hlocks : meth.locks = false) (hname : meth.name = "isPlace") : ri_clo (ri_W p l e r9_isPlace s m args below meth c D ka sa base 2 (MQ below (ri_Qc D ka sa base Po) args s 0 0 (fun q => base ≤ q)) p9_isPlace) (t9_isPlace l Po) := by
  refine ri_clo_of ?_
  unfold t9_isPlace
  exact ⟨s_iload_n X d9_isPlace_0 rfl rfl,
    s_if_lt X d9_isPlace_1 rfl rfl,
    s_iload_n X d9_isPlace_4 rfl rfl,
    s_aload_n X d9_isPlace_5 rfl rfl,
    s_get X (ci := 9) (f := 0) rfl (fun w h => List.mem_cons_of_mem _ (uC_9 w h)) (by decide) (List.mem_cons_of_mem _ mgw_325) d9_isPlace_6 rfl,
    s_getN X (ci := 0) (f := 0) rfl (fun w h => List.mem_cons_of_mem _ (uC_0 w h)) (by decide) (List.mem_of_getElem? (i := 3) rfl) d9_isPlace_9 rfl,
    s_icmp_ge X d9_isPlace_12 rfl rfl,
    s_iconst X d9_isPlace_15 rfl rfl,
    s_goto X d9_isPlace_16 rfl,
    s_iconst X d9_isPlace_19 rfl rfl,
    s_zret X hret hlocks d9_isPlace_20, trivial⟩
theorem d9_isPitch_0 : decode c9_isPitch 0 = .ok (.iload_n 0, 1) := by decide +kernel
theorem d9_isPitch_1 : decode c9_isPitch 1 = .ok (.bipush 36, 2) := by decide +kernel
theorem d9_isPitch_3 : decode c9_isPitch 3 = .ok (.if_icmp .lt 13, 3) := by decide +kernel
theorem d9_isPitch_6 : decode c9_isPitch 6 = .ok (.iload_n 0, 1) := by decide +kernel
theorem d9_isPitch_7 : decode c9_isPitch 7 = .ok (.bipush 84, 2) := by decide +kernel
theorem d9_isPitch_9 : decode c9_isPitch 9 = .ok (.if_icmp .gt 7, 3) := by decide +kernel
theorem d9_isPitch_12 : decode c9_isPitch 12 = .ok (.iconst 1, 1) := by decide +kernel
theorem d9_isPitch_13 : decode c9_isPitch 13 = .ok (.goto 4, 3) := by decide +kernel
theorem d9_isPitch_16 : decode c9_isPitch 16 = .ok (.iconst 0, 1) := by decide +kernel
theorem d9_isPitch_17 : decode c9_isPitch 17 = .ok (.ireturn, 1) := by decide +kernel
def t9_isPitch (l : Launch) (Po : ri_O) : List ri_S := [i_il 1 0,
  i_con 2 36,
  i_icmp 3 8 (fun x y => x < y),
  i_il 4 0,
  i_con 5 84,
  i_icmp 6 8 (fun x y => y < x),
  i_con 7 1,
  i_goto 9,
  i_con 9 0,
  i_zret Po 0 0]
set_option maxRecDepth 20000 in
set_option maxHeartbeats 4000000 in
theorem z9_isPitch (l : Launch) (Po : ri_O) (p : Program) (e : Env) (s : State) (m : MethodId) (args : Array Value) (below : List Frame) (meth : Method) (c : Code) (D : va_G) (ka : Nat → ClassId) (sa : Nat → Nat) (base : Nat) (X : ri_X p s m args c c9_isPitch 1 w9_isPitch "ChoraleSearch" D ka sa base) (hret : meth.sig.returnType = (some .boolean)) (hlocks : meth.locks = false) (hname : meth.name = "isPitch") : ri_clo (ri_W p l e r9_isPitch s m args below meth c D ka sa base 1 (MQ below (ri_Qc D ka sa base Po) args s 0 0 (fun q => base ≤ q)) p9_isPitch) (t9_isPitch l Po) := by
  refine ri_clo_of ?_
  unfold t9_isPitch
  exact ⟨s_iload_n X d9_isPitch_0 rfl rfl,
    s_bipush X d9_isPitch_1 rfl rfl,
    s_icmp_lt X d9_isPitch_3 rfl rfl,
    s_iload_n X d9_isPitch_6 rfl rfl,
    s_bipush X d9_isPitch_7 rfl rfl,
    s_icmp_gt X d9_isPitch_9 rfl rfl,
    s_iconst X d9_isPitch_12 rfl rfl,
    s_goto X d9_isPitch_13 rfl,
    s_iconst X d9_isPitch_16 rfl rfl,
    s_zret X hret hlocks d9_isPitch_17, trivial⟩
theorem d9_setPitch_0 : decode c9_setPitch 0 = .ok (.iload_n 2, 1) := by decide +kernel
theorem d9_setPitch_1 : decode c9_setPitch 1 = .ok (.iconst 4, 1) := by decide +kernel
theorem d9_setPitch_2 : decode c9_setPitch 2 = .ok (.imul, 1) := by decide +kernel
theorem d9_setPitch_3 : decode c9_setPitch 3 = .ok (.iload_n 1, 1) := by decide +kernel
theorem d9_setPitch_4 : decode c9_setPitch 4 = .ok (.iadd, 1) := by decide +kernel
theorem d9_setPitch_5 : decode c9_setPitch 5 = .ok (.istore 4, 2) := by decide +kernel
theorem d9_setPitch_7 : decode c9_setPitch 7 = .ok (.aload_n 0, 1) := by decide +kernel
theorem d9_setPitch_8 : decode c9_setPitch 8 = .ok (.getfield 10, 3) := by decide +kernel
theorem d9_setPitch_11 : decode c9_setPitch 11 = .ok (.getfield 201, 3) := by decide +kernel
theorem d9_setPitch_14 : decode c9_setPitch 14 = .ok (.iload 4, 2) := by decide +kernel
theorem d9_setPitch_16 : decode c9_setPitch 16 = .ok (.iaload, 1) := by decide +kernel
theorem d9_setPitch_17 : decode c9_setPitch 17 = .ok (.istore 5, 2) := by decide +kernel
theorem d9_setPitch_19 : decode c9_setPitch 19 = .ok (.aload_n 0, 1) := by decide +kernel
theorem d9_setPitch_20 : decode c9_setPitch 20 = .ok (.getfield 10, 3) := by decide +kernel
theorem d9_setPitch_23 : decode c9_setPitch 23 = .ok (.getfield 201, 3) := by decide +kernel
theorem d9_setPitch_26 : decode c9_setPitch 26 = .ok (.iload 4, 2) := by decide +kernel
theorem d9_setPitch_28 : decode c9_setPitch 28 = .ok (.iload_n 3, 1) := by decide +kernel
theorem d9_setPitch_29 : decode c9_setPitch 29 = .ok (.iastore, 1) := by decide +kernel
theorem d9_setPitch_30 : decode c9_setPitch 30 = .ok (.aload_n 0, 1) := by decide +kernel
theorem d9_setPitch_31 : decode c9_setPitch 31 = .ok (.invokevirtual 67, 3) := by decide +kernel
theorem d9_setPitch_34 : decode c9_setPitch 34 = .ok (.iload 5, 2) := by decide +kernel
theorem d9_setPitch_36 : decode c9_setPitch 36 = .ok (.ireturn, 1) := by decide +kernel
def t9_setPitch (l : Launch) (Po : ri_O) : List ri_S := [i_il 1 2,
  i_con 2 4,
  i_bin 3 (fun x y => x * y),
  i_il 4 1,
  i_bin 5 (fun x y => x + y),
  i_is 6 4,
  i_al 7 0,
  i_get 8 9 0,
  i_get 9 0 2,
  i_il 10 4,
  i_ald 11 0,
  i_is 12 5,
  i_al 13 0,
  i_get 14 9 0,
  i_get 15 0 2,
  i_il 16 4,
  i_il 17 3,
  i_ast 18 0 (fun x => x),
  i_al 19 0,
  i_callV 20 1 9 (ri_Ev l y9_forgetFound w9_forgetFound r9_forgetFound 0 0) 0 0 0 0,
  i_il 21 5,
  i_ret Po 0 0]
set_option maxRecDepth 20000 in
set_option maxHeartbeats 4000000 in
theorem z9_setPitch (l : Launch) (Po : ri_O) (p : Program) (e : Env) (s : State) (m : MethodId) (args : Array Value) (below : List Frame) (meth : Method) (c : Code) (D : va_G) (ka : Nat → ClassId) (sa : Nat → Nat) (base : Nat) (X : ri_X p s m args c c9_setPitch 6 w9_setPitch "ChoraleSearch" D ka sa base) (hret : meth.sig.returnType = (some .int)) (hlocks : meth.locks = false) (hname : meth.name = "setPitch") : ri_clo (ri_W p l e r9_setPitch s m args below meth c D ka sa base 6 (MQ below (ri_Qc D ka sa base Po) args s 0 0 (fun q => base ≤ q)) p9_setPitch) (t9_setPitch l Po) := by
  refine ri_clo_of ?_
  unfold t9_setPitch
  exact ⟨s_iload_n X d9_setPitch_0 rfl rfl,
    s_iconst X d9_setPitch_1 rfl rfl,
    s_imul X d9_setPitch_2 rfl,
    s_iload_n X d9_setPitch_3 rfl rfl,
    s_iadd X d9_setPitch_4 rfl,
    s_istore X d9_setPitch_5 (by decide) rfl,
    s_aload_n X d9_setPitch_7 rfl rfl,
    s_get X (ci := 9) (f := 0) rfl (fun w h => List.mem_cons_of_mem _ (uC_9 w h)) (by decide) (List.mem_cons_of_mem _ mgw_325) d9_setPitch_8 rfl,
    s_getN X (ci := 0) (f := 2) rfl (fun w h => List.mem_cons_of_mem _ (uC_0 w h)) (by decide) (List.mem_of_getElem? (i := 7) rfl) d9_setPitch_11 rfl,
    s_iload X d9_setPitch_14 rfl,
    s_iald X rfl d9_setPitch_16 rfl,
    s_istore X d9_setPitch_17 (by decide) rfl,
    s_aload_n X d9_setPitch_19 rfl rfl,
    s_get X (ci := 9) (f := 0) rfl (fun w h => List.mem_cons_of_mem _ (uC_9 w h)) (by decide) (List.mem_cons_of_mem _ mgw_325) d9_setPitch_20 rfl,
    s_getN X (ci := 0) (f := 2) rfl (fun w h => List.mem_cons_of_mem _ (uC_0 w h)) (by decide) (List.mem_of_getElem? (i := 7) rfl) d9_setPitch_23 rfl,
    s_iload X d9_setPitch_26 rfl,
    s_iload_n X d9_setPitch_28 rfl rfl,
    s_iast X rfl d9_setPitch_29 rfl,
    s_aload_n X d9_setPitch_30 rfl rfl,
    s_callV ri_NW_ok X (na := 0) (ci := 9) rfl ⟨ri_cB X 0 mgw_349 (List.mem_cons_of_mem _ mgw_1) (List.mem_cons_of_mem _ mgw_346) (by decide +kernel) rfl rfl ⟨by decide, by decide⟩, X.2.2.2.2.1 _ (List.mem_cons_of_mem _ mgw_348), X.2.2.2.2.1 _ (List.mem_cons_of_mem _ mgp_3)⟩ d9_setPitch_31 rfl,
    s_iload X d9_setPitch_34 rfl,
    s_iret X hret hlocks d9_setPitch_36, trivial⟩
theorem d9_free_0 : decode c9_free 0 = .ok (.iload_n 1, 1) := by decide +kernel
theorem d9_free_1 : decode c9_free 1 = .ok (.invokestatic 78, 3) := by decide +kernel
theorem d9_free_4 : decode c9_free 4 = .ok (.ifCond .eq 11, 3) := by decide +kernel
theorem d9_free_7 : decode c9_free 7 = .ok (.aload_n 0, 1) := by decide +kernel
theorem d9_free_8 : decode c9_free 8 = .ok (.iload_n 2, 1) := by decide +kernel
theorem d9_free_9 : decode c9_free 9 = .ok (.invokevirtual 82, 3) := by decide +kernel
theorem d9_free_12 : decode c9_free 12 = .ok (.ifCond .ne 5, 3) := by decide +kernel
theorem d9_free_15 : decode c9_free 15 = .ok (.iconst (-1), 1) := by decide +kernel
theorem d9_free_16 : decode c9_free 16 = .ok (.ireturn, 1) := by decide +kernel
theorem d9_free_17 : decode c9_free 17 = .ok (.aload_n 0, 1) := by decide +kernel
theorem d9_free_18 : decode c9_free 18 = .ok (.iload_n 1, 1) := by decide +kernel
theorem d9_free_19 : decode c9_free 19 = .ok (.iload_n 2, 1) := by decide +kernel
theorem d9_free_20 : decode c9_free 20 = .ok (.bipush (-2), 2) := by decide +kernel
theorem d9_free_22 : decode c9_free 22 = .ok (.invokevirtual 88, 3) := by decide +kernel
theorem d9_free_25 : decode c9_free 25 = .ok (.ireturn, 1) := by decide +kernel
def t9_free (l : Launch) (Po : ri_O) : List ri_S := [i_il 1 1,
  i_call 2 1 (ri_Ev l y9_isVoice w9_isVoice r9_isVoice 0 0) 0 0 0 0,
  i_if 3 7 (fun x => x = 0),
  i_al 4 0,
  i_il 5 2,
  i_callV 6 2 9 (ri_Ev l y9_isPlace w9_isPlace r9_isPlace 0 0) 0 0 0 0,
  i_if 7 9 (fun x => ¬ x = 0),
  i_con 8 (-1),
  i_ret Po 0 0,
  i_al 10 0,
  i_il 11 1,
  i_il 12 2,
  i_con 13 (-2),
  i_callV 14 4 9 (ri_Ev l y9_setPitch w9_setPitch r9_setPitch 0 0) 0 0 0 0,
  i_ret Po 0 0]
set_option maxRecDepth 20000 in
set_option maxHeartbeats 4000000 in
theorem z9_free (l : Launch) (Po : ri_O) (p : Program) (e : Env) (s : State) (m : MethodId) (args : Array Value) (below : List Frame) (meth : Method) (c : Code) (D : va_G) (ka : Nat → ClassId) (sa : Nat → Nat) (base : Nat) (X : ri_X p s m args c c9_free 3 w9_free "ChoraleSearch" D ka sa base) (hret : meth.sig.returnType = (some .int)) (hlocks : meth.locks = false) (hname : meth.name = "free") : ri_clo (ri_W p l e r9_free s m args below meth c D ka sa base 3 (MQ below (ri_Qc D ka sa base Po) args s 0 0 (fun q => base ≤ q)) p9_free) (t9_free l Po) := by
  refine ri_clo_of ?_
  unfold t9_free
  exact ⟨s_iload_n X d9_free_0 rfl rfl,
    s_callS ri_NW_ok X ⟨ri_cB X 1 mgw_369 (List.mem_cons_of_mem _ mgw_1) (List.mem_cons_of_mem _ mgw_367) (by decide +kernel) rfl rfl ⟨by decide, by decide⟩, X.2.2.2.2.1 _ (List.mem_cons_of_mem _ mgw_368)⟩ d9_free_1 rfl,
    s_if_eq X d9_free_4 rfl rfl,
    s_aload_n X d9_free_7 rfl rfl,
    s_iload_n X d9_free_8 rfl rfl,
    s_callV ri_NW_ok X (na := 1) (ci := 9) rfl ⟨ri_cB X 1 mgw_373 (List.mem_cons_of_mem _ mgw_1) (List.mem_cons_of_mem _ mgw_370) (by decide +kernel) rfl rfl ⟨by decide, by decide⟩, X.2.2.2.2.1 _ (List.mem_cons_of_mem _ mgw_372), X.2.2.2.2.1 _ (List.mem_cons_of_mem _ mgp_6)⟩ d9_free_9 rfl,
    s_if_ne X d9_free_12 rfl rfl,
    s_iconst X d9_free_15 rfl rfl,
    s_iret X hret hlocks d9_free_16,
    s_aload_n X d9_free_17 rfl rfl,
    s_iload_n X d9_free_18 rfl rfl,
    s_iload_n X d9_free_19 rfl rfl,
    s_bipush X d9_free_20 rfl rfl,
    s_callV ri_NW_ok X (na := 3) (ci := 9) rfl ⟨ri_cB X 3 mgw_380 (List.mem_cons_of_mem _ mgw_1) (List.mem_cons_of_mem _ mgw_377) (by decide +kernel) rfl rfl ⟨by decide, by decide⟩, X.2.2.2.2.1 _ (List.mem_cons_of_mem _ mgw_379), X.2.2.2.2.1 _ (List.mem_cons_of_mem _ mgp_7)⟩ d9_free_22 rfl,
    s_iret X hret hlocks d9_free_25, trivial⟩
theorem d9_figure_0 : decode c9_figure 0 = .ok (.aload_n 0, 1) := by decide +kernel
theorem d9_figure_1 : decode c9_figure 1 = .ok (.iload_n 1, 1) := by decide +kernel
theorem d9_figure_2 : decode c9_figure 2 = .ok (.invokevirtual 82, 3) := by decide +kernel
theorem d9_figure_5 : decode c9_figure 5 = .ok (.ifCond .eq 14, 3) := by decide +kernel
theorem d9_figure_8 : decode c9_figure 8 = .ok (.iload_n 2, 1) := by decide +kernel
theorem d9_figure_9 : decode c9_figure 9 = .ok (.iconst (-1), 1) := by decide +kernel
theorem d9_figure_10 : decode c9_figure 10 = .ok (.if_icmp .lt 9, 3) := by decide +kernel
theorem d9_figure_13 : decode c9_figure 13 = .ok (.iload_n 2, 1) := by decide +kernel
theorem d9_figure_14 : decode c9_figure 14 = .ok (.bipush 13, 2) := by decide +kernel
theorem d9_figure_16 : decode c9_figure 16 = .ok (.if_icmp .lt 5, 3) := by decide +kernel
theorem d9_figure_19 : decode c9_figure 19 = .ok (.iconst (-1), 1) := by decide +kernel
theorem d9_figure_20 : decode c9_figure 20 = .ok (.ireturn, 1) := by decide +kernel
theorem d9_figure_21 : decode c9_figure 21 = .ok (.aload_n 0, 1) := by decide +kernel
theorem d9_figure_22 : decode c9_figure 22 = .ok (.getfield 10, 3) := by decide +kernel
theorem d9_figure_25 : decode c9_figure 25 = .ok (.getfield 92, 3) := by decide +kernel
theorem d9_figure_28 : decode c9_figure 28 = .ok (.iload_n 1, 1) := by decide +kernel
theorem d9_figure_29 : decode c9_figure 29 = .ok (.iaload, 1) := by decide +kernel
theorem d9_figure_30 : decode c9_figure 30 = .ok (.istore_n 3, 1) := by decide +kernel
theorem d9_figure_31 : decode c9_figure 31 = .ok (.aload_n 0, 1) := by decide +kernel
theorem d9_figure_32 : decode c9_figure 32 = .ok (.getfield 10, 3) := by decide +kernel
theorem d9_figure_35 : decode c9_figure 35 = .ok (.getfield 92, 3) := by decide +kernel
theorem d9_figure_38 : decode c9_figure 38 = .ok (.iload_n 1, 1) := by decide +kernel
theorem d9_figure_39 : decode c9_figure 39 = .ok (.iload_n 2, 1) := by decide +kernel
theorem d9_figure_40 : decode c9_figure 40 = .ok (.iconst (-1), 1) := by decide +kernel
theorem d9_figure_41 : decode c9_figure 41 = .ok (.if_icmp .ne 8, 3) := by decide +kernel
theorem d9_figure_44 : decode c9_figure 44 = .ok (.bipush (-2), 2) := by decide +kernel
theorem d9_figure_46 : decode c9_figure 46 = .ok (.goto 4, 3) := by decide +kernel
theorem d9_figure_49 : decode c9_figure 49 = .ok (.iload_n 2, 1) := by decide +kernel
theorem d9_figure_50 : decode c9_figure 50 = .ok (.iastore, 1) := by decide +kernel
theorem d9_figure_51 : decode c9_figure 51 = .ok (.aload_n 0, 1) := by decide +kernel
theorem d9_figure_52 : decode c9_figure 52 = .ok (.invokevirtual 67, 3) := by decide +kernel
theorem d9_figure_55 : decode c9_figure 55 = .ok (.iload_n 3, 1) := by decide +kernel
theorem d9_figure_56 : decode c9_figure 56 = .ok (.ireturn, 1) := by decide +kernel
def t9_figure (l : Launch) (Po : ri_O) : List ri_S := [i_al 1 0,
  i_il 2 1,
  i_callV 3 2 9 (ri_Ev l y9_isPlace w9_isPlace r9_isPlace 0 0) 0 0 0 0,
  i_if 4 10 (fun x => x = 0),
  i_il 5 2,
  i_con 6 (-1),
  i_icmp 7 10 (fun x y => x < y),
  i_il 8 2,
  i_con 9 13,
  i_icmp 10 12 (fun x y => x < y),
  i_con 11 (-1),
  i_ret Po 0 0,
  i_al 13 0,
  i_get 14 9 0,
  i_get 15 0 3,
  i_il 16 1,
  i_ald 17 0,
  i_is 18 3,
  i_al 19 0,
  i_get 20 9 0,
  i_get 21 0 3,
  i_il 22 1,
  i_il 23 2,
  i_con 24 (-1),
  i_icmp 25 27 (fun x y => ¬ x = y),
  i_con 26 (-2),
  i_goto 28,
  i_il 28 2,
  i_ast 29 0 (fun x => x),
  i_al 30 0,
  i_callV 31 1 9 (ri_Ev l y9_forgetFound w9_forgetFound r9_forgetFound 0 0) 0 0 0 0,
  i_il 32 3,
  i_ret Po 0 0]
set_option maxRecDepth 20000 in
set_option maxHeartbeats 4000000 in
theorem z9_figure (l : Launch) (Po : ri_O) (p : Program) (e : Env) (s : State) (m : MethodId) (args : Array Value) (below : List Frame) (meth : Method) (c : Code) (D : va_G) (ka : Nat → ClassId) (sa : Nat → Nat) (base : Nat) (X : ri_X p s m args c c9_figure 4 w9_figure "ChoraleSearch" D ka sa base) (hret : meth.sig.returnType = (some .int)) (hlocks : meth.locks = false) (hname : meth.name = "figure") : ri_clo (ri_W p l e r9_figure s m args below meth c D ka sa base 4 (MQ below (ri_Qc D ka sa base Po) args s 0 0 (fun q => base ≤ q)) p9_figure) (t9_figure l Po) := by
  refine ri_clo_of ?_
  unfold t9_figure
  exact ⟨s_aload_n X d9_figure_0 rfl rfl,
    s_iload_n X d9_figure_1 rfl rfl,
    s_callV ri_NW_ok X (na := 1) (ci := 9) rfl ⟨ri_cB X 1 mgw_373 (List.mem_cons_of_mem _ mgw_1) (List.mem_cons_of_mem _ mgw_370) (by decide +kernel) rfl rfl ⟨by decide, by decide⟩, X.2.2.2.2.1 _ (List.mem_cons_of_mem _ mgw_372), X.2.2.2.2.1 _ (List.mem_cons_of_mem _ mgp_6)⟩ d9_figure_2 rfl,
    s_if_eq X d9_figure_5 rfl rfl,
    s_iload_n X d9_figure_8 rfl rfl,
    s_iconst X d9_figure_9 rfl rfl,
    s_icmp_lt X d9_figure_10 rfl rfl,
    s_iload_n X d9_figure_13 rfl rfl,
    s_bipush X d9_figure_14 rfl rfl,
    s_icmp_lt X d9_figure_16 rfl rfl,
    s_iconst X d9_figure_19 rfl rfl,
    s_iret X hret hlocks d9_figure_20,
    s_aload_n X d9_figure_21 rfl rfl,
    s_get X (ci := 9) (f := 0) rfl (fun w h => List.mem_cons_of_mem _ (uC_9 w h)) (by decide) (List.mem_cons_of_mem _ mgw_325) d9_figure_22 rfl,
    s_getN X (ci := 0) (f := 3) rfl (fun w h => List.mem_cons_of_mem _ (uC_0 w h)) (by decide) (List.mem_of_getElem? (i := 8) rfl) d9_figure_25 rfl,
    s_iload_n X d9_figure_28 rfl rfl,
    s_iald X rfl d9_figure_29 rfl,
    s_istore_n X d9_figure_30 rfl (by decide) rfl,
    s_aload_n X d9_figure_31 rfl rfl,
    s_get X (ci := 9) (f := 0) rfl (fun w h => List.mem_cons_of_mem _ (uC_9 w h)) (by decide) (List.mem_cons_of_mem _ mgw_325) d9_figure_32 rfl,
    s_getN X (ci := 0) (f := 3) rfl (fun w h => List.mem_cons_of_mem _ (uC_0 w h)) (by decide) (List.mem_of_getElem? (i := 8) rfl) d9_figure_35 rfl,
    s_iload_n X d9_figure_38 rfl rfl,
    s_iload_n X d9_figure_39 rfl rfl,
    s_iconst X d9_figure_40 rfl rfl,
    s_icmp_ne X d9_figure_41 rfl rfl,
    s_bipush X d9_figure_44 rfl rfl,
    s_goto X d9_figure_46 rfl,
    s_iload_n X d9_figure_49 rfl rfl,
    s_iast X rfl d9_figure_50 rfl,
    s_aload_n X d9_figure_51 rfl rfl,
    s_callV ri_NW_ok X (na := 0) (ci := 9) rfl ⟨ri_cB X 0 mgw_349 (List.mem_cons_of_mem _ mgw_1) (List.mem_cons_of_mem _ mgw_346) (by decide +kernel) rfl rfl ⟨by decide, by decide⟩, X.2.2.2.2.1 _ (List.mem_cons_of_mem _ mgw_348), X.2.2.2.2.1 _ (List.mem_cons_of_mem _ mgp_3)⟩ d9_figure_52 rfl,
    s_iload_n X d9_figure_55 rfl rfl,
    s_iret X hret hlocks d9_figure_56, trivial⟩
theorem d9_inversion_0 : decode c9_inversion 0 = .ok (.aload_n 0, 1) := by decide +kernel
theorem d9_inversion_1 : decode c9_inversion 1 = .ok (.iload_n 1, 1) := by decide +kernel
theorem d9_inversion_2 : decode c9_inversion 2 = .ok (.invokevirtual 82, 3) := by decide +kernel
theorem d9_inversion_5 : decode c9_inversion 5 = .ok (.ifCond .eq 13, 3) := by decide +kernel
theorem d9_inversion_8 : decode c9_inversion 8 = .ok (.iload_n 2, 1) := by decide +kernel
theorem d9_inversion_9 : decode c9_inversion 9 = .ok (.iconst (-1), 1) := by decide +kernel
theorem d9_inversion_10 : decode c9_inversion 10 = .ok (.if_icmp .lt 8, 3) := by decide +kernel
theorem d9_inversion_13 : decode c9_inversion 13 = .ok (.iload_n 2, 1) := by decide +kernel
theorem d9_inversion_14 : decode c9_inversion 14 = .ok (.iconst 4, 1) := by decide +kernel
theorem d9_inversion_15 : decode c9_inversion 15 = .ok (.if_icmp .lt 5, 3) := by decide +kernel
theorem d9_inversion_18 : decode c9_inversion 18 = .ok (.iconst (-1), 1) := by decide +kernel
theorem d9_inversion_19 : decode c9_inversion 19 = .ok (.ireturn, 1) := by decide +kernel
theorem d9_inversion_20 : decode c9_inversion 20 = .ok (.aload_n 0, 1) := by decide +kernel
theorem d9_inversion_21 : decode c9_inversion 21 = .ok (.getfield 10, 3) := by decide +kernel
theorem d9_inversion_24 : decode c9_inversion 24 = .ok (.getfield 96, 3) := by decide +kernel
theorem d9_inversion_27 : decode c9_inversion 27 = .ok (.iload_n 1, 1) := by decide +kernel
theorem d9_inversion_28 : decode c9_inversion 28 = .ok (.iaload, 1) := by decide +kernel
theorem d9_inversion_29 : decode c9_inversion 29 = .ok (.istore_n 3, 1) := by decide +kernel
theorem d9_inversion_30 : decode c9_inversion 30 = .ok (.aload_n 0, 1) := by decide +kernel
theorem d9_inversion_31 : decode c9_inversion 31 = .ok (.getfield 10, 3) := by decide +kernel
theorem d9_inversion_34 : decode c9_inversion 34 = .ok (.getfield 96, 3) := by decide +kernel
theorem d9_inversion_37 : decode c9_inversion 37 = .ok (.iload_n 1, 1) := by decide +kernel
theorem d9_inversion_38 : decode c9_inversion 38 = .ok (.iload_n 2, 1) := by decide +kernel
theorem d9_inversion_39 : decode c9_inversion 39 = .ok (.iconst (-1), 1) := by decide +kernel
theorem d9_inversion_40 : decode c9_inversion 40 = .ok (.if_icmp .ne 8, 3) := by decide +kernel
theorem d9_inversion_43 : decode c9_inversion 43 = .ok (.bipush (-2), 2) := by decide +kernel
theorem d9_inversion_45 : decode c9_inversion 45 = .ok (.goto 4, 3) := by decide +kernel
theorem d9_inversion_48 : decode c9_inversion 48 = .ok (.iload_n 2, 1) := by decide +kernel
theorem d9_inversion_49 : decode c9_inversion 49 = .ok (.iastore, 1) := by decide +kernel
theorem d9_inversion_50 : decode c9_inversion 50 = .ok (.aload_n 0, 1) := by decide +kernel
theorem d9_inversion_51 : decode c9_inversion 51 = .ok (.invokevirtual 67, 3) := by decide +kernel
theorem d9_inversion_54 : decode c9_inversion 54 = .ok (.iload_n 3, 1) := by decide +kernel
theorem d9_inversion_55 : decode c9_inversion 55 = .ok (.ireturn, 1) := by decide +kernel
def t9_inversion (l : Launch) (Po : ri_O) : List ri_S := [i_al 1 0,
  i_il 2 1,
  i_callV 3 2 9 (ri_Ev l y9_isPlace w9_isPlace r9_isPlace 0 0) 0 0 0 0,
  i_if 4 10 (fun x => x = 0),
  i_il 5 2,
  i_con 6 (-1),
  i_icmp 7 10 (fun x y => x < y),
  i_il 8 2,
  i_con 9 4,
  i_icmp 10 12 (fun x y => x < y),
  i_con 11 (-1),
  i_ret Po 0 0,
  i_al 13 0,
  i_get 14 9 0,
  i_get 15 0 4,
  i_il 16 1,
  i_ald 17 0,
  i_is 18 3,
  i_al 19 0,
  i_get 20 9 0,
  i_get 21 0 4,
  i_il 22 1,
  i_il 23 2,
  i_con 24 (-1),
  i_icmp 25 27 (fun x y => ¬ x = y),
  i_con 26 (-2),
  i_goto 28,
  i_il 28 2,
  i_ast 29 0 (fun x => x),
  i_al 30 0,
  i_callV 31 1 9 (ri_Ev l y9_forgetFound w9_forgetFound r9_forgetFound 0 0) 0 0 0 0,
  i_il 32 3,
  i_ret Po 0 0]
set_option maxRecDepth 20000 in
set_option maxHeartbeats 4000000 in
theorem z9_inversion (l : Launch) (Po : ri_O) (p : Program) (e : Env) (s : State) (m : MethodId) (args : Array Value) (below : List Frame) (meth : Method) (c : Code) (D : va_G) (ka : Nat → ClassId) (sa : Nat → Nat) (base : Nat) (X : ri_X p s m args c c9_inversion 4 w9_inversion "ChoraleSearch" D ka sa base) (hret : meth.sig.returnType = (some .int)) (hlocks : meth.locks = false) (hname : meth.name = "inversion") : ri_clo (ri_W p l e r9_inversion s m args below meth c D ka sa base 4 (MQ below (ri_Qc D ka sa base Po) args s 0 0 (fun q => base ≤ q)) p9_inversion) (t9_inversion l Po) := by
  refine ri_clo_of ?_
  unfold t9_inversion
  exact ⟨s_aload_n X d9_inversion_0 rfl rfl,
    s_iload_n X d9_inversion_1 rfl rfl,
    s_callV ri_NW_ok X (na := 1) (ci := 9) rfl ⟨ri_cB X 1 mgw_373 (List.mem_cons_of_mem _ mgw_1) (List.mem_cons_of_mem _ mgw_370) (by decide +kernel) rfl rfl ⟨by decide, by decide⟩, X.2.2.2.2.1 _ (List.mem_cons_of_mem _ mgw_372), X.2.2.2.2.1 _ (List.mem_cons_of_mem _ mgp_6)⟩ d9_inversion_2 rfl,
    s_if_eq X d9_inversion_5 rfl rfl,
    s_iload_n X d9_inversion_8 rfl rfl,
    s_iconst X d9_inversion_9 rfl rfl,
    s_icmp_lt X d9_inversion_10 rfl rfl,
    s_iload_n X d9_inversion_13 rfl rfl,
    s_iconst X d9_inversion_14 rfl rfl,
    s_icmp_lt X d9_inversion_15 rfl rfl,
    s_iconst X d9_inversion_18 rfl rfl,
    s_iret X hret hlocks d9_inversion_19,
    s_aload_n X d9_inversion_20 rfl rfl,
    s_get X (ci := 9) (f := 0) rfl (fun w h => List.mem_cons_of_mem _ (uC_9 w h)) (by decide) (List.mem_cons_of_mem _ mgw_325) d9_inversion_21 rfl,
    s_getN X (ci := 0) (f := 4) rfl (fun w h => List.mem_cons_of_mem _ (uC_0 w h)) (by decide) (List.mem_of_getElem? (i := 10) rfl) d9_inversion_24 rfl,
    s_iload_n X d9_inversion_27 rfl rfl,
    s_iald X rfl d9_inversion_28 rfl,
    s_istore_n X d9_inversion_29 rfl (by decide) rfl,
    s_aload_n X d9_inversion_30 rfl rfl,
    s_get X (ci := 9) (f := 0) rfl (fun w h => List.mem_cons_of_mem _ (uC_9 w h)) (by decide) (List.mem_cons_of_mem _ mgw_325) d9_inversion_31 rfl,
    s_getN X (ci := 0) (f := 4) rfl (fun w h => List.mem_cons_of_mem _ (uC_0 w h)) (by decide) (List.mem_of_getElem? (i := 10) rfl) d9_inversion_34 rfl,
    s_iload_n X d9_inversion_37 rfl rfl,
    s_iload_n X d9_inversion_38 rfl rfl,
    s_iconst X d9_inversion_39 rfl rfl,
    s_icmp_ne X d9_inversion_40 rfl rfl,
    s_bipush X d9_inversion_43 rfl rfl,
    s_goto X d9_inversion_45 rfl,
    s_iload_n X d9_inversion_48 rfl rfl,
    s_iast X rfl d9_inversion_49 rfl,
    s_aload_n X d9_inversion_50 rfl rfl,
    s_callV ri_NW_ok X (na := 0) (ci := 9) rfl ⟨ri_cB X 0 mgw_349 (List.mem_cons_of_mem _ mgw_1) (List.mem_cons_of_mem _ mgw_346) (by decide +kernel) rfl rfl ⟨by decide, by decide⟩, X.2.2.2.2.1 _ (List.mem_cons_of_mem _ mgw_348), X.2.2.2.2.1 _ (List.mem_cons_of_mem _ mgp_3)⟩ d9_inversion_51 rfl,
    s_iload_n X d9_inversion_54 rfl rfl,
    s_iret X hret hlocks d9_inversion_55, trivial⟩
theorem d9_fermata_0 : decode c9_fermata 0 = .ok (.aload_n 0, 1) := by decide +kernel
theorem d9_fermata_1 : decode c9_fermata 1 = .ok (.iload_n 1, 1) := by decide +kernel
theorem d9_fermata_2 : decode c9_fermata 2 = .ok (.invokevirtual 82, 3) := by decide +kernel
theorem d9_fermata_5 : decode c9_fermata 5 = .ok (.ifCond .ne 5, 3) := by decide +kernel
theorem d9_fermata_8 : decode c9_fermata 8 = .ok (.iconst (-1), 1) := by decide +kernel
theorem d9_fermata_9 : decode c9_fermata 9 = .ok (.ireturn, 1) := by decide +kernel
theorem d9_fermata_10 : decode c9_fermata 10 = .ok (.aload_n 0, 1) := by decide +kernel
theorem d9_fermata_11 : decode c9_fermata 11 = .ok (.getfield 10, 3) := by decide +kernel
theorem d9_fermata_14 : decode c9_fermata 14 = .ok (.getfield 99, 3) := by decide +kernel
theorem d9_fermata_17 : decode c9_fermata 17 = .ok (.iload_n 1, 1) := by decide +kernel
theorem d9_fermata_18 : decode c9_fermata 18 = .ok (.baload, 1) := by decide +kernel
theorem d9_fermata_19 : decode c9_fermata 19 = .ok (.ifCond .eq 7, 3) := by decide +kernel
theorem d9_fermata_22 : decode c9_fermata 22 = .ok (.iconst 1, 1) := by decide +kernel
theorem d9_fermata_23 : decode c9_fermata 23 = .ok (.goto 4, 3) := by decide +kernel
theorem d9_fermata_26 : decode c9_fermata 26 = .ok (.iconst 0, 1) := by decide +kernel
theorem d9_fermata_27 : decode c9_fermata 27 = .ok (.istore_n 3, 1) := by decide +kernel
theorem d9_fermata_28 : decode c9_fermata 28 = .ok (.aload_n 0, 1) := by decide +kernel
theorem d9_fermata_29 : decode c9_fermata 29 = .ok (.getfield 10, 3) := by decide +kernel
theorem d9_fermata_32 : decode c9_fermata 32 = .ok (.getfield 99, 3) := by decide +kernel
theorem d9_fermata_35 : decode c9_fermata 35 = .ok (.iload_n 1, 1) := by decide +kernel
theorem d9_fermata_36 : decode c9_fermata 36 = .ok (.iload_n 2, 1) := by decide +kernel
theorem d9_fermata_37 : decode c9_fermata 37 = .ok (.bastore, 1) := by decide +kernel
theorem d9_fermata_38 : decode c9_fermata 38 = .ok (.aload_n 0, 1) := by decide +kernel
theorem d9_fermata_39 : decode c9_fermata 39 = .ok (.invokevirtual 67, 3) := by decide +kernel
theorem d9_fermata_42 : decode c9_fermata 42 = .ok (.iload_n 3, 1) := by decide +kernel
theorem d9_fermata_43 : decode c9_fermata 43 = .ok (.ireturn, 1) := by decide +kernel
def t9_fermata (l : Launch) (Po : ri_O) : List ri_S := [i_al 1 0,
  i_il 2 1,
  i_callV 3 2 9 (ri_Ev l y9_isPlace w9_isPlace r9_isPlace 0 0) 0 0 0 0,
  i_if 4 6 (fun x => ¬ x = 0),
  i_con 5 (-1),
  i_ret Po 0 0,
  i_al 7 0,
  i_get 8 9 0,
  i_get 9 0 5,
  i_il 10 1,
  i_ald 11 1,
  i_if 12 14 (fun x => x = 0),
  i_con 13 1,
  i_goto 15,
  i_con 15 0,
  i_is 16 3,
  i_al 17 0,
  i_get 18 9 0,
  i_get 19 0 5,
  i_il 20 1,
  i_il 21 2,
  i_ast 22 1 (fun x => vp_nar .boolean x),
  i_al 23 0,
  i_callV 24 1 9 (ri_Ev l y9_forgetFound w9_forgetFound r9_forgetFound 0 0) 0 0 0 0,
  i_il 25 3,
  i_ret Po 0 0]
set_option maxRecDepth 20000 in
set_option maxHeartbeats 4000000 in
theorem z9_fermata (l : Launch) (Po : ri_O) (p : Program) (e : Env) (s : State) (m : MethodId) (args : Array Value) (below : List Frame) (meth : Method) (c : Code) (D : va_G) (ka : Nat → ClassId) (sa : Nat → Nat) (base : Nat) (X : ri_X p s m args c c9_fermata 4 w9_fermata "ChoraleSearch" D ka sa base) (hret : meth.sig.returnType = (some .int)) (hlocks : meth.locks = false) (hname : meth.name = "fermata") : ri_clo (ri_W p l e r9_fermata s m args below meth c D ka sa base 4 (MQ below (ri_Qc D ka sa base Po) args s 0 0 (fun q => base ≤ q)) p9_fermata) (t9_fermata l Po) := by
  refine ri_clo_of ?_
  unfold t9_fermata
  exact ⟨s_aload_n X d9_fermata_0 rfl rfl,
    s_iload_n X d9_fermata_1 rfl rfl,
    s_callV ri_NW_ok X (na := 1) (ci := 9) rfl ⟨ri_cB X 1 mgw_373 (List.mem_cons_of_mem _ mgw_1) (List.mem_cons_of_mem _ mgw_370) (by decide +kernel) rfl rfl ⟨by decide, by decide⟩, X.2.2.2.2.1 _ (List.mem_cons_of_mem _ mgw_372), X.2.2.2.2.1 _ (List.mem_cons_of_mem _ mgp_6)⟩ d9_fermata_2 rfl,
    s_if_ne X d9_fermata_5 rfl rfl,
    s_iconst X d9_fermata_8 rfl rfl,
    s_iret X hret hlocks d9_fermata_9,
    s_aload_n X d9_fermata_10 rfl rfl,
    s_get X (ci := 9) (f := 0) rfl (fun w h => List.mem_cons_of_mem _ (uC_9 w h)) (by decide) (List.mem_cons_of_mem _ mgw_325) d9_fermata_11 rfl,
    s_getN X (ci := 0) (f := 5) rfl (fun w h => List.mem_cons_of_mem _ (uC_0 w h)) (by decide) (List.mem_of_getElem? (i := 12) rfl) d9_fermata_14 rfl,
    s_iload_n X d9_fermata_17 rfl rfl,
    s_zald X rfl d9_fermata_18 rfl,
    s_if_eq X d9_fermata_19 rfl rfl,
    s_iconst X d9_fermata_22 rfl rfl,
    s_goto X d9_fermata_23 rfl,
    s_iconst X d9_fermata_26 rfl rfl,
    s_istore_n X d9_fermata_27 rfl (by decide) rfl,
    s_aload_n X d9_fermata_28 rfl rfl,
    s_get X (ci := 9) (f := 0) rfl (fun w h => List.mem_cons_of_mem _ (uC_9 w h)) (by decide) (List.mem_cons_of_mem _ mgw_325) d9_fermata_29 rfl,
    s_getN X (ci := 0) (f := 5) rfl (fun w h => List.mem_cons_of_mem _ (uC_0 w h)) (by decide) (List.mem_of_getElem? (i := 12) rfl) d9_fermata_32 rfl,
    s_iload_n X d9_fermata_35 rfl rfl,
    s_iload_n X d9_fermata_36 rfl rfl,
    s_zast X rfl d9_fermata_37 rfl,
    s_aload_n X d9_fermata_38 rfl rfl,
    s_callV ri_NW_ok X (na := 0) (ci := 9) rfl ⟨ri_cB X 0 mgw_349 (List.mem_cons_of_mem _ mgw_1) (List.mem_cons_of_mem _ mgw_346) (by decide +kernel) rfl rfl ⟨by decide, by decide⟩, X.2.2.2.2.1 _ (List.mem_cons_of_mem _ mgw_348), X.2.2.2.2.1 _ (List.mem_cons_of_mem _ mgp_3)⟩ d9_fermata_39 rfl,
    s_iload_n X d9_fermata_42 rfl rfl,
    s_iret X hret hlocks d9_fermata_43, trivial⟩
theorem d9_style_0 : decode c9_style 0 = .ok (.iload_n 1, 1) := by decide +kernel
theorem d9_style_1 : decode c9_style 1 = .ok (.invokestatic 103, 3) := by decide +kernel
theorem d9_style_4 : decode c9_style 4 = .ok (.ifCond .ne 5, 3) := by decide +kernel
theorem d9_style_7 : decode c9_style 7 = .ok (.iconst (-1), 1) := by decide +kernel
theorem d9_style_8 : decode c9_style 8 = .ok (.ireturn, 1) := by decide +kernel
theorem d9_style_9 : decode c9_style 9 = .ok (.aload_n 0, 1) := by decide +kernel
theorem d9_style_10 : decode c9_style 10 = .ok (.getfield 10, 3) := by decide +kernel
theorem d9_style_13 : decode c9_style 13 = .ok (.getfield 106, 3) := by decide +kernel
theorem d9_style_16 : decode c9_style 16 = .ok (.iload_n 1, 1) := by decide +kernel
theorem d9_style_17 : decode c9_style 17 = .ok (.ishr, 1) := by decide +kernel
theorem d9_style_18 : decode c9_style 18 = .ok (.iconst 1, 1) := by decide +kernel
theorem d9_style_19 : decode c9_style 19 = .ok (.iand, 1) := by decide +kernel
theorem d9_style_20 : decode c9_style 20 = .ok (.istore_n 3, 1) := by decide +kernel
theorem d9_style_21 : decode c9_style 21 = .ok (.iconst 1, 1) := by decide +kernel
theorem d9_style_22 : decode c9_style 22 = .ok (.iload_n 1, 1) := by decide +kernel
theorem d9_style_23 : decode c9_style 23 = .ok (.ishl, 1) := by decide +kernel
theorem d9_style_24 : decode c9_style 24 = .ok (.istore 4, 2) := by decide +kernel
theorem d9_style_26 : decode c9_style 26 = .ok (.aload_n 0, 1) := by decide +kernel
theorem d9_style_27 : decode c9_style 27 = .ok (.getfield 10, 3) := by decide +kernel
theorem d9_style_30 : decode c9_style 30 = .ok (.iload_n 2, 1) := by decide +kernel
theorem d9_style_31 : decode c9_style 31 = .ok (.ifCond .eq 16, 3) := by decide +kernel
theorem d9_style_34 : decode c9_style 34 = .ok (.aload_n 0, 1) := by decide +kernel
theorem d9_style_35 : decode c9_style 35 = .ok (.getfield 10, 3) := by decide +kernel
theorem d9_style_38 : decode c9_style 38 = .ok (.getfield 106, 3) := by decide +kernel
theorem d9_style_41 : decode c9_style 41 = .ok (.iload 4, 2) := by decide +kernel
theorem d9_style_43 : decode c9_style 43 = .ok (.ior, 1) := by decide +kernel
theorem d9_style_44 : decode c9_style 44 = .ok (.goto 15, 3) := by decide +kernel
theorem d9_style_47 : decode c9_style 47 = .ok (.aload_n 0, 1) := by decide +kernel
theorem d9_style_48 : decode c9_style 48 = .ok (.getfield 10, 3) := by decide +kernel
theorem d9_style_51 : decode c9_style 51 = .ok (.getfield 106, 3) := by decide +kernel
theorem d9_style_54 : decode c9_style 54 = .ok (.iload 4, 2) := by decide +kernel
theorem d9_style_56 : decode c9_style 56 = .ok (.iconst (-1), 1) := by decide +kernel
theorem d9_style_57 : decode c9_style 57 = .ok (.ixor, 1) := by decide +kernel
theorem d9_style_58 : decode c9_style 58 = .ok (.iand, 1) := by decide +kernel
theorem d9_style_59 : decode c9_style 59 = .ok (.putfield 106, 3) := by decide +kernel
theorem d9_style_62 : decode c9_style 62 = .ok (.aload_n 0, 1) := by decide +kernel
theorem d9_style_63 : decode c9_style 63 = .ok (.invokevirtual 67, 3) := by decide +kernel
theorem d9_style_66 : decode c9_style 66 = .ok (.iload_n 3, 1) := by decide +kernel
theorem d9_style_67 : decode c9_style 67 = .ok (.ireturn, 1) := by decide +kernel
def t9_style (l : Launch) (Po : ri_O) : List ri_S := [i_il 1 1,
  i_call 2 1 (ri_Ev l y9_isChord w9_isChord r9_isChord 0 0) 0 0 0 0,
  i_if 3 5 (fun x => ¬ x = 0),
  i_con 4 (-1),
  i_ret Po 0 0,
  i_al 6 0,
  i_get 7 9 0,
  i_get 8 0 1,
  i_il 9 1,
  i_bin 10 (fun x y => x >>> (y &&& 31)),
  i_con 11 1,
  i_bin 12 (fun x y => x &&& y),
  i_is 13 3,
  i_con 14 1,
  i_il 15 1,
  i_bin 16 (fun x y => x <<< (y &&& 31)),
  i_is 17 4,
  i_al 18 0,
  i_get 19 9 0,
  i_il 20 2,
  i_if 21 27 (fun x => x = 0),
  i_al 22 0,
  i_get 23 9 0,
  i_get 24 0 1,
  i_il 25 4,
  i_bin 26 (fun x y => x ||| y),
  i_goto 34,
  i_al 28 0,
  i_get 29 9 0,
  i_get 30 0 1,
  i_il 31 4,
  i_con 32 (-1),
  i_bin 33 (fun x y => x ^^^ y),
  i_bin 34 (fun x y => x &&& y),
  i_put 35 0 1 ri_isI,
  i_al 36 0,
  i_callV 37 1 9 (ri_Ev l y9_forgetFound w9_forgetFound r9_forgetFound 0 0) 0 0 0 0,
  i_il 38 3,
  i_ret Po 0 0]
set_option maxRecDepth 20000 in
set_option maxHeartbeats 4000000 in
theorem z9_style (l : Launch) (Po : ri_O) (p : Program) (e : Env) (s : State) (m : MethodId) (args : Array Value) (below : List Frame) (meth : Method) (c : Code) (D : va_G) (ka : Nat → ClassId) (sa : Nat → Nat) (base : Nat) (X : ri_X p s m args c c9_style 5 w9_style "ChoraleSearch" D ka sa base) (hret : meth.sig.returnType = (some .int)) (hlocks : meth.locks = false) (hname : meth.name = "style") : ri_clo (ri_W p l e r9_style s m args below meth c D ka sa base 5 (MQ below (ri_Qc D ka sa base Po) args s 0 0 (fun q => base ≤ q)) p9_style) (t9_style l Po) := by
  refine ri_clo_of ?_
  unfold t9_style
  exact ⟨s_iload_n X d9_style_0 rfl rfl,
    s_callS ri_NW_ok X ⟨ri_cB X 1 mgw_403 (List.mem_cons_of_mem _ mgw_1) (List.mem_cons_of_mem _ mgw_401) (by decide +kernel) rfl rfl ⟨by decide, by decide⟩, X.2.2.2.2.1 _ (List.mem_cons_of_mem _ mgw_402)⟩ d9_style_1 rfl,
    s_if_ne X d9_style_4 rfl rfl,
    s_iconst X d9_style_7 rfl rfl,
    s_iret X hret hlocks d9_style_8,
    s_aload_n X d9_style_9 rfl rfl,
    s_get X (ci := 9) (f := 0) rfl (fun w h => List.mem_cons_of_mem _ (uC_9 w h)) (by decide) (List.mem_cons_of_mem _ mgw_325) d9_style_10 rfl,
    s_getN X (ci := 0) (f := 1) rfl (fun w h => List.mem_cons_of_mem _ (uC_0 w h)) (by decide) (List.mem_of_getElem? (i := 5) rfl) d9_style_13 rfl,
    s_iload_n X d9_style_16 rfl rfl,
    s_ishr X d9_style_17 rfl,
    s_iconst X d9_style_18 rfl rfl,
    s_iand X d9_style_19 rfl,
    s_istore_n X d9_style_20 rfl (by decide) rfl,
    s_iconst X d9_style_21 rfl rfl,
    s_iload_n X d9_style_22 rfl rfl,
    s_ishl X d9_style_23 rfl,
    s_istore X d9_style_24 (by decide) rfl,
    s_aload_n X d9_style_26 rfl rfl,
    s_get X (ci := 9) (f := 0) rfl (fun w h => List.mem_cons_of_mem _ (uC_9 w h)) (by decide) (List.mem_cons_of_mem _ mgw_325) d9_style_27 rfl,
    s_iload_n X d9_style_30 rfl rfl,
    s_if_eq X d9_style_31 rfl rfl,
    s_aload_n X d9_style_34 rfl rfl,
    s_get X (ci := 9) (f := 0) rfl (fun w h => List.mem_cons_of_mem _ (uC_9 w h)) (by decide) (List.mem_cons_of_mem _ mgw_325) d9_style_35 rfl,
    s_getN X (ci := 0) (f := 1) rfl (fun w h => List.mem_cons_of_mem _ (uC_0 w h)) (by decide) (List.mem_of_getElem? (i := 5) rfl) d9_style_38 rfl,
    s_iload X d9_style_41 rfl,
    s_ior X d9_style_43 rfl,
    s_goto X d9_style_44 rfl,
    s_aload_n X d9_style_47 rfl rfl,
    s_get X (ci := 9) (f := 0) rfl (fun w h => List.mem_cons_of_mem _ (uC_9 w h)) (by decide) (List.mem_cons_of_mem _ mgw_325) d9_style_48 rfl,
    s_getN X (ci := 0) (f := 1) rfl (fun w h => List.mem_cons_of_mem _ (uC_0 w h)) (by decide) (List.mem_of_getElem? (i := 5) rfl) d9_style_51 rfl,
    s_iload X d9_style_54 rfl,
    s_iconst X d9_style_56 rfl rfl,
    s_ixor X d9_style_57 rfl,
    s_iand X d9_style_58 rfl,
    s_putN X (ci := 0) (f := 1) rfl (fun w h => List.mem_cons_of_mem _ (uC_0 w h)) (by decide) tC_0 oC_0 nC_0 rfl ri_ok_int (List.mem_of_getElem? (i := 5) rfl) d9_style_59 rfl,
    s_aload_n X d9_style_62 rfl rfl,
    s_callV ri_NW_ok X (na := 0) (ci := 9) rfl ⟨ri_cB X 0 mgw_349 (List.mem_cons_of_mem _ mgw_1) (List.mem_cons_of_mem _ mgw_346) (by decide +kernel) rfl rfl ⟨by decide, by decide⟩, X.2.2.2.2.1 _ (List.mem_cons_of_mem _ mgw_348), X.2.2.2.2.1 _ (List.mem_cons_of_mem _ mgp_3)⟩ d9_style_63 rfl,
    s_iload_n X d9_style_66 rfl rfl,
    s_iret X hret hlocks d9_style_67, trivial⟩
theorem d9_isChord_0 : decode c9_isChord 0 = .ok (.iload_n 0, 1) := by decide +kernel
theorem d9_isChord_1 : decode c9_isChord 1 = .ok (.ifCond .lt 13, 3) := by decide +kernel
theorem d9_isChord_4 : decode c9_isChord 4 = .ok (.iload_n 0, 1) := by decide +kernel
theorem d9_isChord_5 : decode c9_isChord 5 = .ok (.bipush 13, 2) := by decide +kernel
theorem d9_isChord_7 : decode c9_isChord 7 = .ok (.if_icmp .ge 7, 3) := by decide +kernel
theorem d9_isChord_10 : decode c9_isChord 10 = .ok (.iconst 1, 1) := by decide +kernel
theorem d9_isChord_11 : decode c9_isChord 11 = .ok (.goto 4, 3) := by decide +kernel
theorem d9_isChord_14 : decode c9_isChord 14 = .ok (.iconst 0, 1) := by decide +kernel
theorem d9_isChord_15 : decode c9_isChord 15 = .ok (.ireturn, 1) := by decide +kernel
def t9_isChord (l : Launch) (Po : ri_O) : List ri_S := [i_il 1 0,
  i_if 2 7 (fun x => x < 0),
  i_il 3 0,
  i_con 4 13,
  i_icmp 5 7 (fun x y => y ≤ x),
  i_con 6 1,
  i_goto 8,
  i_con 8 0,
  i_zret Po 0 0]
set_option maxRecDepth 20000 in
set_option maxHeartbeats 4000000 in
theorem z9_isChord (l : Launch) (Po : ri_O) (p : Program) (e : Env) (s : State) (m : MethodId) (args : Array Value) (below : List Frame) (meth : Method) (c : Code) (D : va_G) (ka : Nat → ClassId) (sa : Nat → Nat) (base : Nat) (X : ri_X p s m args c c9_isChord 1 w9_isChord "ChoraleSearch" D ka sa base) (hret : meth.sig.returnType = (some .boolean)) (hlocks : meth.locks = false) (hname : meth.name = "isChord") : ri_clo (ri_W p l e r9_isChord s m args below meth c D ka sa base 1 (MQ below (ri_Qc D ka sa base Po) args s 0 0 (fun q => base ≤ q)) p9_isChord) (t9_isChord l Po) := by
  refine ri_clo_of ?_
  unfold t9_isChord
  exact ⟨s_iload_n X d9_isChord_0 rfl rfl,
    s_if_lt X d9_isChord_1 rfl rfl,
    s_iload_n X d9_isChord_4 rfl rfl,
    s_bipush X d9_isChord_5 rfl rfl,
    s_icmp_ge X d9_isChord_7 rfl rfl,
    s_iconst X d9_isChord_10 rfl rfl,
    s_goto X d9_isChord_11 rfl,
    s_iconst X d9_isChord_14 rfl rfl,
    s_zret X hret hlocks d9_isChord_15, trivial⟩
theorem d9_cost_0 : decode c9_cost 0 = .ok (.iload_n 1, 1) := by decide +kernel
theorem d9_cost_1 : decode c9_cost 1 = .ok (.ifCond .lt 20, 3) := by decide +kernel
theorem d9_cost_4 : decode c9_cost 4 = .ok (.iload_n 1, 1) := by decide +kernel
theorem d9_cost_5 : decode c9_cost 5 = .ok (.bipush 9, 2) := by decide +kernel
theorem d9_cost_7 : decode c9_cost 7 = .ok (.if_icmp .ge 14, 3) := by decide +kernel
theorem d9_cost_10 : decode c9_cost 10 = .ok (.iload_n 2, 1) := by decide +kernel
theorem d9_cost_11 : decode c9_cost 11 = .ok (.ifCond .lt 10, 3) := by decide +kernel
theorem d9_cost_14 : decode c9_cost 14 = .ok (.iload_n 2, 1) := by decide +kernel
theorem d9_cost_15 : decode c9_cost 15 = .ok (.sipush 1000, 3) := by decide +kernel
theorem d9_cost_18 : decode c9_cost 18 = .ok (.if_icmp .le 5, 3) := by decide +kernel
theorem d9_cost_21 : decode c9_cost 21 = .ok (.iconst (-1), 1) := by decide +kernel
theorem d9_cost_22 : decode c9_cost 22 = .ok (.ireturn, 1) := by decide +kernel
theorem d9_cost_23 : decode c9_cost 23 = .ok (.aload_n 0, 1) := by decide +kernel
theorem d9_cost_24 : decode c9_cost 24 = .ok (.getfield 10, 3) := by decide +kernel
theorem d9_cost_27 : decode c9_cost 27 = .ok (.getfield 109, 3) := by decide +kernel
theorem d9_cost_30 : decode c9_cost 30 = .ok (.iload_n 1, 1) := by decide +kernel
theorem d9_cost_31 : decode c9_cost 31 = .ok (.iaload, 1) := by decide +kernel
theorem d9_cost_32 : decode c9_cost 32 = .ok (.istore_n 3, 1) := by decide +kernel
theorem d9_cost_33 : decode c9_cost 33 = .ok (.aload_n 0, 1) := by decide +kernel
theorem d9_cost_34 : decode c9_cost 34 = .ok (.getfield 10, 3) := by decide +kernel
theorem d9_cost_37 : decode c9_cost 37 = .ok (.getfield 109, 3) := by decide +kernel
theorem d9_cost_40 : decode c9_cost 40 = .ok (.iload_n 1, 1) := by decide +kernel
theorem d9_cost_41 : decode c9_cost 41 = .ok (.iload_n 2, 1) := by decide +kernel
theorem d9_cost_42 : decode c9_cost 42 = .ok (.iastore, 1) := by decide +kernel
theorem d9_cost_43 : decode c9_cost 43 = .ok (.aload_n 0, 1) := by decide +kernel
theorem d9_cost_44 : decode c9_cost 44 = .ok (.invokevirtual 67, 3) := by decide +kernel
theorem d9_cost_47 : decode c9_cost 47 = .ok (.iload_n 3, 1) := by decide +kernel
theorem d9_cost_48 : decode c9_cost 48 = .ok (.ireturn, 1) := by decide +kernel
def t9_cost (l : Launch) (Po : ri_O) : List ri_S := [i_il 1 1,
  i_if 2 10 (fun x => x < 0),
  i_il 3 1,
  i_con 4 9,
  i_icmp 5 10 (fun x y => y ≤ x),
  i_il 6 2,
  i_if 7 10 (fun x => x < 0),
  i_il 8 2,
  i_con 9 1000,
  i_icmp 10 12 (fun x y => x ≤ y),
  i_con 11 (-1),
  i_ret Po 0 0,
  i_al 13 0,
  i_get 14 9 0,
  i_get 15 0 6,
  i_il 16 1,
  i_ald 17 0,
  i_is 18 3,
  i_al 19 0,
  i_get 20 9 0,
  i_get 21 0 6,
  i_il 22 1,
  i_il 23 2,
  i_ast 24 0 (fun x => x),
  i_al 25 0,
  i_callV 26 1 9 (ri_Ev l y9_forgetFound w9_forgetFound r9_forgetFound 0 0) 0 0 0 0,
  i_il 27 3,
  i_ret Po 0 0]
set_option maxRecDepth 20000 in
set_option maxHeartbeats 4000000 in
theorem z9_cost (l : Launch) (Po : ri_O) (p : Program) (e : Env) (s : State) (m : MethodId) (args : Array Value) (below : List Frame) (meth : Method) (c : Code) (D : va_G) (ka : Nat → ClassId) (sa : Nat → Nat) (base : Nat) (X : ri_X p s m args c c9_cost 4 w9_cost "ChoraleSearch" D ka sa base) (hret : meth.sig.returnType = (some .int)) (hlocks : meth.locks = false) (hname : meth.name = "cost") : ri_clo (ri_W p l e r9_cost s m args below meth c D ka sa base 4 (MQ below (ri_Qc D ka sa base Po) args s 0 0 (fun q => base ≤ q)) p9_cost) (t9_cost l Po) := by
  refine ri_clo_of ?_
  unfold t9_cost
  exact ⟨s_iload_n X d9_cost_0 rfl rfl,
    s_if_lt X d9_cost_1 rfl rfl,
    s_iload_n X d9_cost_4 rfl rfl,
    s_bipush X d9_cost_5 rfl rfl,
    s_icmp_ge X d9_cost_7 rfl rfl,
    s_iload_n X d9_cost_10 rfl rfl,
    s_if_lt X d9_cost_11 rfl rfl,
    s_iload_n X d9_cost_14 rfl rfl,
    s_sipush X d9_cost_15 rfl rfl,
    s_icmp_le X d9_cost_18 rfl rfl,
    s_iconst X d9_cost_21 rfl rfl,
    s_iret X hret hlocks d9_cost_22,
    s_aload_n X d9_cost_23 rfl rfl,
    s_get X (ci := 9) (f := 0) rfl (fun w h => List.mem_cons_of_mem _ (uC_9 w h)) (by decide) (List.mem_cons_of_mem _ mgw_325) d9_cost_24 rfl,
    s_getN X (ci := 0) (f := 6) rfl (fun w h => List.mem_cons_of_mem _ (uC_0 w h)) (by decide) (List.mem_of_getElem? (i := 14) rfl) d9_cost_27 rfl,
    s_iload_n X d9_cost_30 rfl rfl,
    s_iald X rfl d9_cost_31 rfl,
    s_istore_n X d9_cost_32 rfl (by decide) rfl,
    s_aload_n X d9_cost_33 rfl rfl,
    s_get X (ci := 9) (f := 0) rfl (fun w h => List.mem_cons_of_mem _ (uC_9 w h)) (by decide) (List.mem_cons_of_mem _ mgw_325) d9_cost_34 rfl,
    s_getN X (ci := 0) (f := 6) rfl (fun w h => List.mem_cons_of_mem _ (uC_0 w h)) (by decide) (List.mem_of_getElem? (i := 14) rfl) d9_cost_37 rfl,
    s_iload_n X d9_cost_40 rfl rfl,
    s_iload_n X d9_cost_41 rfl rfl,
    s_iast X rfl d9_cost_42 rfl,
    s_aload_n X d9_cost_43 rfl rfl,
    s_callV ri_NW_ok X (na := 0) (ci := 9) rfl ⟨ri_cB X 0 mgw_349 (List.mem_cons_of_mem _ mgw_1) (List.mem_cons_of_mem _ mgw_346) (by decide +kernel) rfl rfl ⟨by decide, by decide⟩, X.2.2.2.2.1 _ (List.mem_cons_of_mem _ mgw_348), X.2.2.2.2.1 _ (List.mem_cons_of_mem _ mgp_3)⟩ d9_cost_44 rfl,
    s_iload_n X d9_cost_47 rfl rfl,
    s_iret X hret hlocks d9_cost_48, trivial⟩
theorem d9_range_0 : decode c9_range 0 = .ok (.iload_n 1, 1) := by decide +kernel
theorem d9_range_1 : decode c9_range 1 = .ok (.invokestatic 78, 3) := by decide +kernel
theorem d9_range_4 : decode c9_range 4 = .ok (.ifCond .eq 22, 3) := by decide +kernel
theorem d9_range_7 : decode c9_range 7 = .ok (.iload_n 2, 1) := by decide +kernel
theorem d9_range_8 : decode c9_range 8 = .ok (.invokestatic 85, 3) := by decide +kernel
theorem d9_range_11 : decode c9_range 11 = .ok (.ifCond .eq 15, 3) := by decide +kernel
theorem d9_range_14 : decode c9_range 14 = .ok (.iload_n 3, 1) := by decide +kernel
theorem d9_range_15 : decode c9_range 15 = .ok (.invokestatic 85, 3) := by decide +kernel
theorem d9_range_18 : decode c9_range 18 = .ok (.ifCond .eq 8, 3) := by decide +kernel
theorem d9_range_21 : decode c9_range 21 = .ok (.iload_n 2, 1) := by decide +kernel
theorem d9_range_22 : decode c9_range 22 = .ok (.iload_n 3, 1) := by decide +kernel
theorem d9_range_23 : decode c9_range 23 = .ok (.if_icmp .le 5, 3) := by decide +kernel
theorem d9_range_26 : decode c9_range 26 = .ok (.iconst (-1), 1) := by decide +kernel
theorem d9_range_27 : decode c9_range 27 = .ok (.ireturn, 1) := by decide +kernel
theorem d9_range_28 : decode c9_range 28 = .ok (.aload_n 0, 1) := by decide +kernel
theorem d9_range_29 : decode c9_range 29 = .ok (.getfield 10, 3) := by decide +kernel
theorem d9_range_32 : decode c9_range 32 = .ok (.getfield 112, 3) := by decide +kernel
theorem d9_range_35 : decode c9_range 35 = .ok (.iload_n 1, 1) := by decide +kernel
theorem d9_range_36 : decode c9_range 36 = .ok (.iload_n 2, 1) := by decide +kernel
theorem d9_range_37 : decode c9_range 37 = .ok (.iastore, 1) := by decide +kernel
theorem d9_range_38 : decode c9_range 38 = .ok (.aload_n 0, 1) := by decide +kernel
theorem d9_range_39 : decode c9_range 39 = .ok (.getfield 10, 3) := by decide +kernel
theorem d9_range_42 : decode c9_range 42 = .ok (.getfield 115, 3) := by decide +kernel
theorem d9_range_45 : decode c9_range 45 = .ok (.iload_n 1, 1) := by decide +kernel
theorem d9_range_46 : decode c9_range 46 = .ok (.iload_n 3, 1) := by decide +kernel
theorem d9_range_47 : decode c9_range 47 = .ok (.iastore, 1) := by decide +kernel
theorem d9_range_48 : decode c9_range 48 = .ok (.aload_n 0, 1) := by decide +kernel
theorem d9_range_49 : decode c9_range 49 = .ok (.invokevirtual 67, 3) := by decide +kernel
theorem d9_range_52 : decode c9_range 52 = .ok (.iconst 1, 1) := by decide +kernel
theorem d9_range_53 : decode c9_range 53 = .ok (.ireturn, 1) := by decide +kernel
def t9_range (l : Launch) (Po : ri_O) : List ri_S := [i_il 1 1,
  i_call 2 1 (ri_Ev l y9_isVoice w9_isVoice r9_isVoice 0 0) 0 0 0 0,
  i_if 3 12 (fun x => x = 0),
  i_il 4 2,
  i_call 5 1 (ri_Ev l y9_isPitch w9_isPitch r9_isPitch 0 0) 0 0 0 0,
  i_if 6 12 (fun x => x = 0),
  i_il 7 3,
  i_call 8 1 (ri_Ev l y9_isPitch w9_isPitch r9_isPitch 0 0) 0 0 0 0,
  i_if 9 12 (fun x => x = 0),
  i_il 10 2,
  i_il 11 3,
  i_icmp 12 14 (fun x y => x ≤ y),
  i_con 13 (-1),
  i_ret Po 0 0,
  i_al 15 0,
  i_get 16 9 0,
  i_get 17 0 7,
  i_il 18 1,
  i_il 19 2,
  i_ast 20 0 (fun x => x),
  i_al 21 0,
  i_get 22 9 0,
  i_get 23 0 8,
  i_il 24 1,
  i_il 25 3,
  i_ast 26 0 (fun x => x),
  i_al 27 0,
  i_callV 28 1 9 (ri_Ev l y9_forgetFound w9_forgetFound r9_forgetFound 0 0) 0 0 0 0,
  i_con 29 1,
  i_ret Po 0 0]
set_option maxRecDepth 20000 in
set_option maxHeartbeats 4000000 in
theorem z9_range (l : Launch) (Po : ri_O) (p : Program) (e : Env) (s : State) (m : MethodId) (args : Array Value) (below : List Frame) (meth : Method) (c : Code) (D : va_G) (ka : Nat → ClassId) (sa : Nat → Nat) (base : Nat) (X : ri_X p s m args c c9_range 4 w9_range "ChoraleSearch" D ka sa base) (hret : meth.sig.returnType = (some .int)) (hlocks : meth.locks = false) (hname : meth.name = "range") : ri_clo (ri_W p l e r9_range s m args below meth c D ka sa base 4 (MQ below (ri_Qc D ka sa base Po) args s 0 0 (fun q => base ≤ q)) p9_range) (t9_range l Po) := by
  refine ri_clo_of ?_
  unfold t9_range
  exact ⟨s_iload_n X d9_range_0 rfl rfl,
    s_callS ri_NW_ok X ⟨ri_cB X 1 mgw_369 (List.mem_cons_of_mem _ mgw_1) (List.mem_cons_of_mem _ mgw_367) (by decide +kernel) rfl rfl ⟨by decide, by decide⟩, X.2.2.2.2.1 _ (List.mem_cons_of_mem _ mgw_368)⟩ d9_range_1 rfl,
    s_if_eq X d9_range_4 rfl rfl,
    s_iload_n X d9_range_7 rfl rfl,
    s_callS ri_NW_ok X ⟨ri_cB X 1 mgw_376 (List.mem_cons_of_mem _ mgw_1) (List.mem_cons_of_mem _ mgw_374) (by decide +kernel) rfl rfl ⟨by decide, by decide⟩, X.2.2.2.2.1 _ (List.mem_cons_of_mem _ mgw_375)⟩ d9_range_8 rfl,
    s_if_eq X d9_range_11 rfl rfl,
    s_iload_n X d9_range_14 rfl rfl,
    s_callS ri_NW_ok X ⟨ri_cB X 1 mgw_376 (List.mem_cons_of_mem _ mgw_1) (List.mem_cons_of_mem _ mgw_374) (by decide +kernel) rfl rfl ⟨by decide, by decide⟩, X.2.2.2.2.1 _ (List.mem_cons_of_mem _ mgw_375)⟩ d9_range_15 rfl,
    s_if_eq X d9_range_18 rfl rfl,
    s_iload_n X d9_range_21 rfl rfl,
    s_iload_n X d9_range_22 rfl rfl,
    s_icmp_le X d9_range_23 rfl rfl,
    s_iconst X d9_range_26 rfl rfl,
    s_iret X hret hlocks d9_range_27,
    s_aload_n X d9_range_28 rfl rfl,
    s_get X (ci := 9) (f := 0) rfl (fun w h => List.mem_cons_of_mem _ (uC_9 w h)) (by decide) (List.mem_cons_of_mem _ mgw_325) d9_range_29 rfl,
    s_getN X (ci := 0) (f := 7) rfl (fun w h => List.mem_cons_of_mem _ (uC_0 w h)) (by decide) (List.mem_of_getElem? (i := 15) rfl) d9_range_32 rfl,
    s_iload_n X d9_range_35 rfl rfl,
    s_iload_n X d9_range_36 rfl rfl,
    s_iast X rfl d9_range_37 rfl,
    s_aload_n X d9_range_38 rfl rfl,
    s_get X (ci := 9) (f := 0) rfl (fun w h => List.mem_cons_of_mem _ (uC_9 w h)) (by decide) (List.mem_cons_of_mem _ mgw_325) d9_range_39 rfl,
    s_getN X (ci := 0) (f := 8) rfl (fun w h => List.mem_cons_of_mem _ (uC_0 w h)) (by decide) (List.mem_of_getElem? (i := 16) rfl) d9_range_42 rfl,
    s_iload_n X d9_range_45 rfl rfl,
    s_iload_n X d9_range_46 rfl rfl,
    s_iast X rfl d9_range_47 rfl,
    s_aload_n X d9_range_48 rfl rfl,
    s_callV ri_NW_ok X (na := 0) (ci := 9) rfl ⟨ri_cB X 0 mgw_349 (List.mem_cons_of_mem _ mgw_1) (List.mem_cons_of_mem _ mgw_346) (by decide +kernel) rfl rfl ⟨by decide, by decide⟩, X.2.2.2.2.1 _ (List.mem_cons_of_mem _ mgw_348), X.2.2.2.2.1 _ (List.mem_cons_of_mem _ mgp_3)⟩ d9_range_49 rfl,
    s_iconst X d9_range_52 rfl rfl,
    s_iret X hret hlocks d9_range_53, trivial⟩
theorem d9_solve_0 : decode c9_solve 0 = .ok (.iload_n 1, 1) := by decide +kernel
theorem d9_solve_1 : decode c9_solve 1 = .ok (.ifCond .lt 9, 3) := by decide +kernel
theorem d9_solve_4 : decode c9_solve 4 = .ok (.iload_n 1, 1) := by decide +kernel
theorem d9_solve_5 : decode c9_solve 5 = .ok (.bipush 100, 2) := by decide +kernel
theorem d9_solve_7 : decode c9_solve 7 = .ok (.if_icmp .le 5, 3) := by decide +kernel
theorem d9_solve_10 : decode c9_solve 10 = .ok (.iconst (-1), 1) := by decide +kernel
theorem d9_solve_11 : decode c9_solve 11 = .ok (.ireturn, 1) := by decide +kernel
theorem d9_solve_12 : decode c9_solve 12 = .ok (.aload_n 0, 1) := by decide +kernel
theorem d9_solve_13 : decode c9_solve 13 = .ok (.getfield 38, 3) := by decide +kernel
theorem d9_solve_16 : decode c9_solve 16 = .ok (.invokevirtual 118, 3) := by decide +kernel
theorem d9_solve_19 : decode c9_solve 19 = .ok (.aload_n 0, 1) := by decide +kernel
theorem d9_solve_20 : decode c9_solve 20 = .ok (.getfield 38, 3) := by decide +kernel
theorem d9_solve_23 : decode c9_solve 23 = .ok (.invokevirtual 121, 3) := by decide +kernel
theorem d9_solve_26 : decode c9_solve 26 = .ok (.ifCond .eq 6, 3) := by decide +kernel
theorem d9_solve_29 : decode c9_solve 29 = .ok (.bipush (-3), 2) := by decide +kernel
theorem d9_solve_31 : decode c9_solve 31 = .ok (.ireturn, 1) := by decide +kernel
theorem d9_solve_32 : decode c9_solve 32 = .ok (.aload_n 0, 1) := by decide +kernel
theorem d9_solve_33 : decode c9_solve 33 = .ok (.getfield 59, 3) := by decide +kernel
theorem d9_solve_36 : decode c9_solve 36 = .ok (.iload_n 1, 1) := by decide +kernel
theorem d9_solve_37 : decode c9_solve 37 = .ok (.invokevirtual 125, 3) := by decide +kernel
theorem d9_solve_40 : decode c9_solve 40 = .ok (.aload_n 0, 1) := by decide +kernel
theorem d9_solve_41 : decode c9_solve 41 = .ok (.getfield 59, 3) := by decide +kernel
theorem d9_solve_44 : decode c9_solve 44 = .ok (.getfield 128, 3) := by decide +kernel
theorem d9_solve_47 : decode c9_solve 47 = .ok (.ireturn, 1) := by decide +kernel
def t9_solve (l : Launch) (Po : ri_O) : List ri_S := [i_il 1 1,
  i_if 2 5 (fun x => x < 0),
  i_il 3 1,
  i_con 4 100,
  i_icmp 5 7 (fun x y => x ≤ y),
  i_con 6 (-1),
  i_ret Po 0 0,
  i_al 8 0,
  i_get 9 9 2,
  i_callV 10 1 4 (ri_Ev l y4_prepare w4_prepare r4_prepare 0 0) 0 0 0 0,
  i_al 11 0,
  i_get 12 9 2,
  i_callV 13 1 4 (ri_Ev l y4_overflows w4_overflows r4_overflows 0 0) 0 0 0 0,
  i_if 14 16 (fun x => x = 0),
  i_con 15 (-3),
  i_ret Po 0 0,
  i_al 17 0,
  i_get 18 9 4,
  i_il 19 1,
  i_callV 20 2 8 (ri_Ev l y8_run w8_run r8_run 0 0) 0 0 0 0,
  i_al 21 0,
  i_get 22 9 4,
  i_get 23 8 13,
  i_ret Po 0 0]
set_option maxRecDepth 20000 in
set_option maxHeartbeats 4000000 in
theorem z9_solve (l : Launch) (Po : ri_O) (p : Program) (e : Env) (s : State) (m : MethodId) (args : Array Value) (below : List Frame) (meth : Method) (c : Code) (D : va_G) (ka : Nat → ClassId) (sa : Nat → Nat) (base : Nat) (X : ri_X p s m args c c9_solve 2 w9_solve "ChoraleSearch" D ka sa base) (hret : meth.sig.returnType = (some .int)) (hlocks : meth.locks = false) (hname : meth.name = "solve") : ri_clo (ri_W p l e r9_solve s m args below meth c D ka sa base 2 (MQ below (ri_Qc D ka sa base Po) args s 0 0 (fun q => base ≤ q)) p9_solve) (t9_solve l Po) := by
  refine ri_clo_of ?_
  unfold t9_solve
  exact ⟨s_iload_n X d9_solve_0 rfl rfl,
    s_if_lt X d9_solve_1 rfl rfl,
    s_iload_n X d9_solve_4 rfl rfl,
    s_bipush X d9_solve_5 rfl rfl,
    s_icmp_le X d9_solve_7 rfl rfl,
    s_iconst X d9_solve_10 rfl rfl,
    s_iret X hret hlocks d9_solve_11,
    s_aload_n X d9_solve_12 rfl rfl,
    s_get X (ci := 9) (f := 2) rfl (fun w h => List.mem_cons_of_mem _ (uC_9 w h)) (by decide) (List.mem_cons_of_mem _ mgw_327) d9_solve_13 rfl,
    s_callVN ri_NW_ok X (na := 0) (ci := 4) rfl ⟨ri_cN X 0 mgw_419 (List.mem_cons_of_mem _ mgw_7) (List.mem_of_getElem? (i := 47) rfl) (by decide +kernel) rfl rfl ⟨by decide, by decide⟩, X.2.2.2.2.1 _ (List.mem_cons_of_mem _ mgw_418), X.2.2.2.2.1 _ (List.mem_cons_of_mem _ mgp_8)⟩ d9_solve_16 rfl,
    s_aload_n X d9_solve_19 rfl rfl,
    s_get X (ci := 9) (f := 2) rfl (fun w h => List.mem_cons_of_mem _ (uC_9 w h)) (by decide) (List.mem_cons_of_mem _ mgw_327) d9_solve_20 rfl,
    s_callVN ri_NW_ok X (na := 0) (ci := 4) rfl ⟨ri_cN X 0 mgw_506 (List.mem_cons_of_mem _ mgw_7) (List.mem_of_getElem? (i := 61) rfl) (by decide +kernel) rfl rfl ⟨by decide, by decide⟩, X.2.2.2.2.1 _ (List.mem_cons_of_mem _ mgw_505), X.2.2.2.2.1 _ (List.mem_cons_of_mem _ mgp_25)⟩ d9_solve_23 rfl,
    s_if_eq X d9_solve_26 rfl rfl,
    s_bipush X d9_solve_29 rfl rfl,
    s_iret X hret hlocks d9_solve_31,
    s_aload_n X d9_solve_32 rfl rfl,
    s_get X (ci := 9) (f := 4) rfl (fun w h => List.mem_cons_of_mem _ (uC_9 w h)) (by decide) (List.mem_cons_of_mem _ mgw_329) d9_solve_33 rfl,
    s_iload_n X d9_solve_36 rfl rfl,
    s_callVN ri_NW_ok X (na := 1) (ci := 8) rfl ⟨ri_cN X 1 mgw_510 (List.mem_cons_of_mem _ mgw_10) (List.mem_of_getElem? (i := 62) rfl) (by decide +kernel) rfl rfl ⟨by decide, by decide⟩, X.2.2.2.2.1 _ (List.mem_cons_of_mem _ mgw_509), X.2.2.2.2.1 _ (List.mem_cons_of_mem _ mgp_26)⟩ d9_solve_37 rfl,
    s_aload_n X d9_solve_40 rfl rfl,
    s_get X (ci := 9) (f := 4) rfl (fun w h => List.mem_cons_of_mem _ (uC_9 w h)) (by decide) (List.mem_cons_of_mem _ mgw_329) d9_solve_41 rfl,
    s_getN X (ci := 8) (f := 13) rfl (fun w h => List.mem_cons_of_mem _ (uC_8 w h)) (by decide) (List.mem_of_getElem? (i := 41) rfl) d9_solve_44 rfl,
    s_iret X hret hlocks d9_solve_47, trivial⟩
theorem d9_note_0 : decode c9_note 0 = .ok (.aload_n 0, 1) := by decide +kernel
theorem d9_note_1 : decode c9_note 1 = .ok (.iload_n 1, 1) := by decide +kernel
theorem d9_note_2 : decode c9_note 2 = .ok (.invokevirtual 131, 3) := by decide +kernel
theorem d9_note_5 : decode c9_note 5 = .ok (.ifCond .eq 18, 3) := by decide +kernel
theorem d9_note_8 : decode c9_note 8 = .ok (.iload_n 2, 1) := by decide +kernel
theorem d9_note_9 : decode c9_note 9 = .ok (.invokestatic 78, 3) := by decide +kernel
theorem d9_note_12 : decode c9_note 12 = .ok (.ifCond .eq 11, 3) := by decide +kernel
theorem d9_note_15 : decode c9_note 15 = .ok (.aload_n 0, 1) := by decide +kernel
theorem d9_note_16 : decode c9_note 16 = .ok (.iload_n 3, 1) := by decide +kernel
theorem d9_note_17 : decode c9_note 17 = .ok (.invokevirtual 82, 3) := by decide +kernel
theorem d9_note_20 : decode c9_note 20 = .ok (.ifCond .ne 5, 3) := by decide +kernel
theorem d9_note_23 : decode c9_note 23 = .ok (.iconst (-1), 1) := by decide +kernel
theorem d9_note_24 : decode c9_note 24 = .ok (.ireturn, 1) := by decide +kernel
theorem d9_note_25 : decode c9_note 25 = .ok (.aload_n 0, 1) := by decide +kernel
theorem d9_note_26 : decode c9_note 26 = .ok (.getfield 59, 3) := by decide +kernel
theorem d9_note_29 : decode c9_note 29 = .ok (.iload_n 1, 1) := by decide +kernel
theorem d9_note_30 : decode c9_note 30 = .ok (.iload_n 3, 1) := by decide +kernel
theorem d9_note_31 : decode c9_note 31 = .ok (.invokevirtual 134, 3) := by decide +kernel
theorem d9_note_34 : decode c9_note 34 = .ok (.iload_n 2, 1) := by decide +kernel
theorem d9_note_35 : decode c9_note 35 = .ok (.invokestatic 138, 3) := by decide +kernel
theorem d9_note_38 : decode c9_note 38 = .ok (.ireturn, 1) := by decide +kernel
def t9_note (l : Launch) (Po : ri_O) : List ri_S := [i_al 1 0,
  i_il 2 1,
  i_callV 3 2 9 (ri_Ev l y9_isRow w9_isRow r9_isRow 0 0) 0 0 0 0,
  i_if 4 11 (fun x => x = 0),
  i_il 5 2,
  i_call 6 1 (ri_Ev l y9_isVoice w9_isVoice r9_isVoice 0 0) 0 0 0 0,
  i_if 7 11 (fun x => x = 0),
  i_al 8 0,
  i_il 9 3,
  i_callV 10 2 9 (ri_Ev l y9_isPlace w9_isPlace r9_isPlace 0 0) 0 0 0 0,
  i_if 11 13 (fun x => ¬ x = 0),
  i_con 12 (-1),
  i_ret Po 0 0,
  i_al 14 0,
  i_get 15 9 4,
  i_il 16 1,
  i_il 17 3,
  i_callV 18 3 8 (ri_Ev l y8_codeAt w8_codeAt r8_codeAt 0 0) 0 0 0 0,
  i_il 19 2,
  i_call 20 2 (ri_Ev l y11_pitchOf w11_pitchOf r11_pitchOf 0 0) 0 0 0 0,
  i_ret Po 0 0]
set_option maxRecDepth 20000 in
set_option maxHeartbeats 4000000 in
theorem z9_note (l : Launch) (Po : ri_O) (p : Program) (e : Env) (s : State) (m : MethodId) (args : Array Value) (below : List Frame) (meth : Method) (c : Code) (D : va_G) (ka : Nat → ClassId) (sa : Nat → Nat) (base : Nat) (X : ri_X p s m args c c9_note 4 w9_note "ChoraleSearch" D ka sa base) (hret : meth.sig.returnType = (some .int)) (hlocks : meth.locks = false) (hname : meth.name = "note") : ri_clo (ri_W p l e r9_note s m args below meth c D ka sa base 4 (MQ below (ri_Qc D ka sa base Po) args s 0 0 (fun q => base ≤ q)) p9_note) (t9_note l Po) := by
  refine ri_clo_of ?_
  unfold t9_note
  exact ⟨s_aload_n X d9_note_0 rfl rfl,
    s_iload_n X d9_note_1 rfl rfl,
    s_callV ri_NW_ok X (na := 1) (ci := 9) rfl ⟨ri_cB X 1 mgw_653 (List.mem_cons_of_mem _ mgw_1) (List.mem_cons_of_mem _ mgw_650) (by decide +kernel) rfl rfl ⟨by decide, by decide⟩, X.2.2.2.2.1 _ (List.mem_cons_of_mem _ mgw_652), X.2.2.2.2.1 _ (List.mem_cons_of_mem _ mgp_51)⟩ d9_note_2 rfl,
    s_if_eq X d9_note_5 rfl rfl,
    s_iload_n X d9_note_8 rfl rfl,
    s_callS ri_NW_ok X ⟨ri_cB X 1 mgw_369 (List.mem_cons_of_mem _ mgw_1) (List.mem_cons_of_mem _ mgw_367) (by decide +kernel) rfl rfl ⟨by decide, by decide⟩, X.2.2.2.2.1 _ (List.mem_cons_of_mem _ mgw_368)⟩ d9_note_9 rfl,
    s_if_eq X d9_note_12 rfl rfl,
    s_aload_n X d9_note_15 rfl rfl,
    s_iload_n X d9_note_16 rfl rfl,
    s_callV ri_NW_ok X (na := 1) (ci := 9) rfl ⟨ri_cB X 1 mgw_373 (List.mem_cons_of_mem _ mgw_1) (List.mem_cons_of_mem _ mgw_370) (by decide +kernel) rfl rfl ⟨by decide, by decide⟩, X.2.2.2.2.1 _ (List.mem_cons_of_mem _ mgw_372), X.2.2.2.2.1 _ (List.mem_cons_of_mem _ mgp_6)⟩ d9_note_17 rfl,
    s_if_ne X d9_note_20 rfl rfl,
    s_iconst X d9_note_23 rfl rfl,
    s_iret X hret hlocks d9_note_24,
    s_aload_n X d9_note_25 rfl rfl,
    s_get X (ci := 9) (f := 4) rfl (fun w h => List.mem_cons_of_mem _ (uC_9 w h)) (by decide) (List.mem_cons_of_mem _ mgw_329) d9_note_26 rfl,
    s_iload_n X d9_note_29 rfl rfl,
    s_iload_n X d9_note_30 rfl rfl,
    s_callVN ri_NW_ok X (na := 2) (ci := 8) rfl ⟨ri_cN X 2 mgw_657 (List.mem_cons_of_mem _ mgw_10) (List.mem_of_getElem? (i := 79) rfl) (by decide +kernel) rfl rfl ⟨by decide, by decide⟩, X.2.2.2.2.1 _ (List.mem_cons_of_mem _ mgw_656), X.2.2.2.2.1 _ (List.mem_cons_of_mem _ mgp_52)⟩ d9_note_31 rfl,
    s_iload_n X d9_note_34 rfl rfl,
    s_callSN ri_NW_ok X ⟨ri_cN X 2 mgw_532 (List.mem_cons_of_mem _ mgw_14) (List.mem_of_getElem? (i := 80) rfl) (by decide +kernel) rfl rfl ⟨by decide, by decide⟩, X.2.2.2.2.1 _ (List.mem_cons_of_mem _ mgw_531), trivial⟩ d9_note_35 rfl,
    s_iret X hret hlocks d9_note_38, trivial⟩
theorem d9_isRow_0 : decode c9_isRow 0 = .ok (.iload_n 1, 1) := by decide +kernel
theorem d9_isRow_1 : decode c9_isRow 1 = .ok (.ifCond .lt 18, 3) := by decide +kernel
theorem d9_isRow_4 : decode c9_isRow 4 = .ok (.iload_n 1, 1) := by decide +kernel
theorem d9_isRow_5 : decode c9_isRow 5 = .ok (.aload_n 0, 1) := by decide +kernel
theorem d9_isRow_6 : decode c9_isRow 6 = .ok (.getfield 59, 3) := by decide +kernel
theorem d9_isRow_9 : decode c9_isRow 9 = .ok (.getfield 128, 3) := by decide +kernel
theorem d9_isRow_12 : decode c9_isRow 12 = .ok (.if_icmp .ge 7, 3) := by decide +kernel
theorem d9_isRow_15 : decode c9_isRow 15 = .ok (.iconst 1, 1) := by decide +kernel
theorem d9_isRow_16 : decode c9_isRow 16 = .ok (.goto 4, 3) := by decide +kernel
theorem d9_isRow_19 : decode c9_isRow 19 = .ok (.iconst 0, 1) := by decide +kernel
theorem d9_isRow_20 : decode c9_isRow 20 = .ok (.ireturn, 1) := by decide +kernel
def t9_isRow (l : Launch) (Po : ri_O) : List ri_S := [i_il 1 1,
  i_if 2 9 (fun x => x < 0),
  i_il 3 1,
  i_al 4 0,
  i_get 5 9 4,
  i_get 6 8 13,
  i_icmp 7 9 (fun x y => y ≤ x),
  i_con 8 1,
  i_goto 10,
  i_con 10 0,
  i_zret Po 0 0]
set_option maxRecDepth 20000 in
set_option maxHeartbeats 4000000 in
theorem z9_isRow (l : Launch) (Po : ri_O) (p : Program) (e : Env) (s : State) (m : MethodId) (args : Array Value) (below : List Frame) (meth : Method) (c : Code) (D : va_G) (ka : Nat → ClassId) (sa : Nat → Nat) (base : Nat) (X : ri_X p s m args c c9_isRow 2 w9_isRow "ChoraleSearch" D ka sa base) (hret : meth.sig.returnType = (some .boolean)) (hlocks : meth.locks = false) (hname : meth.name = "isRow") : ri_clo (ri_W p l e r9_isRow s m args below meth c D ka sa base 2 (MQ below (ri_Qc D ka sa base Po) args s 0 0 (fun q => base ≤ q)) p9_isRow) (t9_isRow l Po) := by
  refine ri_clo_of ?_
  unfold t9_isRow
  exact ⟨s_iload_n X d9_isRow_0 rfl rfl,
    s_if_lt X d9_isRow_1 rfl rfl,
    s_iload_n X d9_isRow_4 rfl rfl,
    s_aload_n X d9_isRow_5 rfl rfl,
    s_get X (ci := 9) (f := 4) rfl (fun w h => List.mem_cons_of_mem _ (uC_9 w h)) (by decide) (List.mem_cons_of_mem _ mgw_329) d9_isRow_6 rfl,
    s_getN X (ci := 8) (f := 13) rfl (fun w h => List.mem_cons_of_mem _ (uC_8 w h)) (by decide) (List.mem_of_getElem? (i := 41) rfl) d9_isRow_9 rfl,
    s_icmp_ge X d9_isRow_12 rfl rfl,
    s_iconst X d9_isRow_15 rfl rfl,
    s_goto X d9_isRow_16 rfl,
    s_iconst X d9_isRow_19 rfl rfl,
    s_zret X hret hlocks d9_isRow_20, trivial⟩
theorem d9_chord_0 : decode c9_chord 0 = .ok (.aload_n 0, 1) := by decide +kernel
theorem d9_chord_1 : decode c9_chord 1 = .ok (.iload_n 1, 1) := by decide +kernel
theorem d9_chord_2 : decode c9_chord 2 = .ok (.invokevirtual 131, 3) := by decide +kernel
theorem d9_chord_5 : decode c9_chord 5 = .ok (.ifCond .eq 11, 3) := by decide +kernel
theorem d9_chord_8 : decode c9_chord 8 = .ok (.aload_n 0, 1) := by decide +kernel
theorem d9_chord_9 : decode c9_chord 9 = .ok (.iload_n 2, 1) := by decide +kernel
theorem d9_chord_10 : decode c9_chord 10 = .ok (.invokevirtual 82, 3) := by decide +kernel
theorem d9_chord_13 : decode c9_chord 13 = .ok (.ifCond .ne 5, 3) := by decide +kernel
theorem d9_chord_16 : decode c9_chord 16 = .ok (.iconst (-1), 1) := by decide +kernel
theorem d9_chord_17 : decode c9_chord 17 = .ok (.ireturn, 1) := by decide +kernel
theorem d9_chord_18 : decode c9_chord 18 = .ok (.aload_n 0, 1) := by decide +kernel
theorem d9_chord_19 : decode c9_chord 19 = .ok (.getfield 59, 3) := by decide +kernel
theorem d9_chord_22 : decode c9_chord 22 = .ok (.iload_n 1, 1) := by decide +kernel
theorem d9_chord_23 : decode c9_chord 23 = .ok (.iload_n 2, 1) := by decide +kernel
theorem d9_chord_24 : decode c9_chord 24 = .ok (.invokevirtual 134, 3) := by decide +kernel
theorem d9_chord_27 : decode c9_chord 27 = .ok (.invokestatic 143, 3) := by decide +kernel
theorem d9_chord_30 : decode c9_chord 30 = .ok (.ireturn, 1) := by decide +kernel
def t9_chord (l : Launch) (Po : ri_O) : List ri_S := [i_al 1 0,
  i_il 2 1,
  i_callV 3 2 9 (ri_Ev l y9_isRow w9_isRow r9_isRow 0 0) 0 0 0 0,
  i_if 4 8 (fun x => x = 0),
  i_al 5 0,
  i_il 6 2,
  i_callV 7 2 9 (ri_Ev l y9_isPlace w9_isPlace r9_isPlace 0 0) 0 0 0 0,
  i_if 8 10 (fun x => ¬ x = 0),
  i_con 9 (-1),
  i_ret Po 0 0,
  i_al 11 0,
  i_get 12 9 4,
  i_il 13 1,
  i_il 14 2,
  i_callV 15 3 8 (ri_Ev l y8_codeAt w8_codeAt r8_codeAt 0 0) 0 0 0 0,
  i_call 16 1 (ri_Ev l y11_chordOf w11_chordOf r11_chordOf 0 0) 0 0 0 0,
  i_ret Po 0 0]
set_option maxRecDepth 20000 in
set_option maxHeartbeats 4000000 in
theorem z9_chord (l : Launch) (Po : ri_O) (p : Program) (e : Env) (s : State) (m : MethodId) (args : Array Value) (below : List Frame) (meth : Method) (c : Code) (D : va_G) (ka : Nat → ClassId) (sa : Nat → Nat) (base : Nat) (X : ri_X p s m args c c9_chord 3 w9_chord "ChoraleSearch" D ka sa base) (hret : meth.sig.returnType = (some .int)) (hlocks : meth.locks = false) (hname : meth.name = "chord") : ri_clo (ri_W p l e r9_chord s m args below meth c D ka sa base 3 (MQ below (ri_Qc D ka sa base Po) args s 0 0 (fun q => base ≤ q)) p9_chord) (t9_chord l Po) := by
  refine ri_clo_of ?_
  unfold t9_chord
  exact ⟨s_aload_n X d9_chord_0 rfl rfl,
    s_iload_n X d9_chord_1 rfl rfl,
    s_callV ri_NW_ok X (na := 1) (ci := 9) rfl ⟨ri_cB X 1 mgw_653 (List.mem_cons_of_mem _ mgw_1) (List.mem_cons_of_mem _ mgw_650) (by decide +kernel) rfl rfl ⟨by decide, by decide⟩, X.2.2.2.2.1 _ (List.mem_cons_of_mem _ mgw_652), X.2.2.2.2.1 _ (List.mem_cons_of_mem _ mgp_51)⟩ d9_chord_2 rfl,
    s_if_eq X d9_chord_5 rfl rfl,
    s_aload_n X d9_chord_8 rfl rfl,
    s_iload_n X d9_chord_9 rfl rfl,
    s_callV ri_NW_ok X (na := 1) (ci := 9) rfl ⟨ri_cB X 1 mgw_373 (List.mem_cons_of_mem _ mgw_1) (List.mem_cons_of_mem _ mgw_370) (by decide +kernel) rfl rfl ⟨by decide, by decide⟩, X.2.2.2.2.1 _ (List.mem_cons_of_mem _ mgw_372), X.2.2.2.2.1 _ (List.mem_cons_of_mem _ mgp_6)⟩ d9_chord_10 rfl,
    s_if_ne X d9_chord_13 rfl rfl,
    s_iconst X d9_chord_16 rfl rfl,
    s_iret X hret hlocks d9_chord_17,
    s_aload_n X d9_chord_18 rfl rfl,
    s_get X (ci := 9) (f := 4) rfl (fun w h => List.mem_cons_of_mem _ (uC_9 w h)) (by decide) (List.mem_cons_of_mem _ mgw_329) d9_chord_19 rfl,
    s_iload_n X d9_chord_22 rfl rfl,
    s_iload_n X d9_chord_23 rfl rfl,
    s_callVN ri_NW_ok X (na := 2) (ci := 8) rfl ⟨ri_cN X 2 mgw_657 (List.mem_cons_of_mem _ mgw_10) (List.mem_of_getElem? (i := 79) rfl) (by decide +kernel) rfl rfl ⟨by decide, by decide⟩, X.2.2.2.2.1 _ (List.mem_cons_of_mem _ mgw_656), X.2.2.2.2.1 _ (List.mem_cons_of_mem _ mgp_52)⟩ d9_chord_24 rfl,
    s_callSN ri_NW_ok X ⟨ri_cN X 1 mgw_535 (List.mem_cons_of_mem _ mgw_14) (List.mem_of_getElem? (i := 81) rfl) (by decide +kernel) rfl rfl ⟨by decide, by decide⟩, X.2.2.2.2.1 _ (List.mem_cons_of_mem _ mgw_534), trivial⟩ d9_chord_27 rfl,
    s_iret X hret hlocks d9_chord_30, trivial⟩
theorem d9_sum_0 : decode c9_sum 0 = .ok (.aload_n 0, 1) := by decide +kernel
theorem d9_sum_1 : decode c9_sum 1 = .ok (.iload_n 1, 1) := by decide +kernel
theorem d9_sum_2 : decode c9_sum 2 = .ok (.invokevirtual 131, 3) := by decide +kernel
theorem d9_sum_5 : decode c9_sum 5 = .ok (.ifCond .eq 15, 3) := by decide +kernel
theorem d9_sum_8 : decode c9_sum 8 = .ok (.aload_n 0, 1) := by decide +kernel
theorem d9_sum_9 : decode c9_sum 9 = .ok (.getfield 59, 3) := by decide +kernel
theorem d9_sum_12 : decode c9_sum 12 = .ok (.getfield 147, 3) := by decide +kernel
theorem d9_sum_15 : decode c9_sum 15 = .ok (.iload_n 1, 1) := by decide +kernel
theorem d9_sum_16 : decode c9_sum 16 = .ok (.iaload, 1) := by decide +kernel
theorem d9_sum_17 : decode c9_sum 17 = .ok (.goto 4, 3) := by decide +kernel
theorem d9_sum_20 : decode c9_sum 20 = .ok (.iconst (-1), 1) := by decide +kernel
theorem d9_sum_21 : decode c9_sum 21 = .ok (.ireturn, 1) := by decide +kernel
def t9_sum (l : Launch) (Po : ri_O) : List ri_S := [i_al 1 0,
  i_il 2 1,
  i_callV 3 2 9 (ri_Ev l y9_isRow w9_isRow r9_isRow 0 0) 0 0 0 0,
  i_if 4 10 (fun x => x = 0),
  i_al 5 0,
  i_get 6 9 4,
  i_get 7 8 11,
  i_il 8 1,
  i_ald 9 0,
  i_goto 11,
  i_con 11 (-1),
  i_ret Po 0 0]
set_option maxRecDepth 20000 in
set_option maxHeartbeats 4000000 in
theorem z9_sum (l : Launch) (Po : ri_O) (p : Program) (e : Env) (s : State) (m : MethodId) (args : Array Value) (below : List Frame) (meth : Method) (c : Code) (D : va_G) (ka : Nat → ClassId) (sa : Nat → Nat) (base : Nat) (X : ri_X p s m args c c9_sum 2 w9_sum "ChoraleSearch" D ka sa base) (hret : meth.sig.returnType = (some .int)) (hlocks : meth.locks = false) (hname : meth.name = "sum") : ri_clo (ri_W p l e r9_sum s m args below meth c D ka sa base 2 (MQ below (ri_Qc D ka sa base Po) args s 0 0 (fun q => base ≤ q)) p9_sum) (t9_sum l Po) := by
  refine ri_clo_of ?_
  unfold t9_sum
  exact ⟨s_aload_n X d9_sum_0 rfl rfl,
    s_iload_n X d9_sum_1 rfl rfl,
    s_callV ri_NW_ok X (na := 1) (ci := 9) rfl ⟨ri_cB X 1 mgw_653 (List.mem_cons_of_mem _ mgw_1) (List.mem_cons_of_mem _ mgw_650) (by decide +kernel) rfl rfl ⟨by decide, by decide⟩, X.2.2.2.2.1 _ (List.mem_cons_of_mem _ mgw_652), X.2.2.2.2.1 _ (List.mem_cons_of_mem _ mgp_51)⟩ d9_sum_2 rfl,
    s_if_eq X d9_sum_5 rfl rfl,
    s_aload_n X d9_sum_8 rfl rfl,
    s_get X (ci := 9) (f := 4) rfl (fun w h => List.mem_cons_of_mem _ (uC_9 w h)) (by decide) (List.mem_cons_of_mem _ mgw_329) d9_sum_9 rfl,
    s_getN X (ci := 8) (f := 11) rfl (fun w h => List.mem_cons_of_mem _ (uC_8 w h)) (by decide) (List.mem_of_getElem? (i := 40) rfl) d9_sum_12 rfl,
    s_iload_n X d9_sum_15 rfl rfl,
    s_iald X rfl d9_sum_16 rfl,
    s_goto X d9_sum_17 rfl,
    s_iconst X d9_sum_20 rfl rfl,
    s_iret X hret hlocks d9_sum_21, trivial⟩
theorem d9_least_0 : decode c9_least 0 = .ok (.aload_n 0, 1) := by decide +kernel
theorem d9_least_1 : decode c9_least 1 = .ok (.getfield 59, 3) := by decide +kernel
theorem d9_least_4 : decode c9_least 4 = .ok (.getfield 128, 3) := by decide +kernel
theorem d9_least_7 : decode c9_least 7 = .ok (.ifCond .ne 5, 3) := by decide +kernel
theorem d9_least_10 : decode c9_least 10 = .ok (.iconst (-1), 1) := by decide +kernel
theorem d9_least_11 : decode c9_least 11 = .ok (.ireturn, 1) := by decide +kernel
theorem d9_least_12 : decode c9_least 12 = .ok (.aload_n 0, 1) := by decide +kernel
theorem d9_least_13 : decode c9_least 13 = .ok (.getfield 59, 3) := by decide +kernel
theorem d9_least_16 : decode c9_least 16 = .ok (.getfield 150, 3) := by decide +kernel
theorem d9_least_19 : decode c9_least 19 = .ok (.ifCond .eq 7, 3) := by decide +kernel
theorem d9_least_22 : decode c9_least 22 = .ok (.iconst 0, 1) := by decide +kernel
theorem d9_least_23 : decode c9_least 23 = .ok (.goto 4, 3) := by decide +kernel
theorem d9_least_26 : decode c9_least 26 = .ok (.iconst 1, 1) := by decide +kernel
theorem d9_least_27 : decode c9_least 27 = .ok (.ireturn, 1) := by decide +kernel
def t9_least (l : Launch) (Po : ri_O) : List ri_S := [i_al 1 0,
  i_get 2 9 4,
  i_get 3 8 13,
  i_if 4 6 (fun x => ¬ x = 0),
  i_con 5 (-1),
  i_ret Po 0 0,
  i_al 7 0,
  i_get 8 9 4,
  i_get 9 8 14,
  i_if 10 12 (fun x => x = 0),
  i_con 11 0,
  i_goto 13,
  i_con 13 1,
  i_ret Po 0 0]
set_option maxRecDepth 20000 in
set_option maxHeartbeats 4000000 in
theorem z9_least (l : Launch) (Po : ri_O) (p : Program) (e : Env) (s : State) (m : MethodId) (args : Array Value) (below : List Frame) (meth : Method) (c : Code) (D : va_G) (ka : Nat → ClassId) (sa : Nat → Nat) (base : Nat) (X : ri_X p s m args c c9_least 1 w9_least "ChoraleSearch" D ka sa base) (hret : meth.sig.returnType = (some .int)) (hlocks : meth.locks = false) (hname : meth.name = "least") : ri_clo (ri_W p l e r9_least s m args below meth c D ka sa base 1 (MQ below (ri_Qc D ka sa base Po) args s 0 0 (fun q => base ≤ q)) p9_least) (t9_least l Po) := by
  refine ri_clo_of ?_
  unfold t9_least
  exact ⟨s_aload_n X d9_least_0 rfl rfl,
    s_get X (ci := 9) (f := 4) rfl (fun w h => List.mem_cons_of_mem _ (uC_9 w h)) (by decide) (List.mem_cons_of_mem _ mgw_329) d9_least_1 rfl,
    s_getN X (ci := 8) (f := 13) rfl (fun w h => List.mem_cons_of_mem _ (uC_8 w h)) (by decide) (List.mem_of_getElem? (i := 41) rfl) d9_least_4 rfl,
    s_if_ne X d9_least_7 rfl rfl,
    s_iconst X d9_least_10 rfl rfl,
    s_iret X hret hlocks d9_least_11,
    s_aload_n X d9_least_12 rfl rfl,
    s_get X (ci := 9) (f := 4) rfl (fun w h => List.mem_cons_of_mem _ (uC_9 w h)) (by decide) (List.mem_cons_of_mem _ mgw_329) d9_least_13 rfl,
    s_getN X (ci := 8) (f := 14) rfl (fun w h => List.mem_cons_of_mem _ (uC_8 w h)) (by decide) (List.mem_of_getElem? (i := 42) rfl) d9_least_16 rfl,
    s_if_eq X d9_least_19 rfl rfl,
    s_iconst X d9_least_22 rfl rfl,
    s_goto X d9_least_23 rfl,
    s_iconst X d9_least_26 rfl rfl,
    s_iret X hret hlocks d9_least_27, trivial⟩
theorem d9_states_0 : decode c9_states 0 = .ok (.aload_n 0, 1) := by decide +kernel
theorem d9_states_1 : decode c9_states 1 = .ok (.iload_n 1, 1) := by decide +kernel
theorem d9_states_2 : decode c9_states 2 = .ok (.invokevirtual 82, 3) := by decide +kernel
theorem d9_states_5 : decode c9_states 5 = .ok (.ifCond .ne 5, 3) := by decide +kernel
theorem d9_states_8 : decode c9_states 8 = .ok (.iconst (-1), 1) := by decide +kernel
theorem d9_states_9 : decode c9_states 9 = .ok (.ireturn, 1) := by decide +kernel
theorem d9_states_10 : decode c9_states 10 = .ok (.aload_n 0, 1) := by decide +kernel
theorem d9_states_11 : decode c9_states 11 = .ok (.getfield 38, 3) := by decide +kernel
theorem d9_states_14 : decode c9_states 14 = .ok (.invokevirtual 118, 3) := by decide +kernel
theorem d9_states_17 : decode c9_states 17 = .ok (.aload_n 0, 1) := by decide +kernel
theorem d9_states_18 : decode c9_states 18 = .ok (.getfield 38, 3) := by decide +kernel
theorem d9_states_21 : decode c9_states 21 = .ok (.getfield 154, 3) := by decide +kernel
theorem d9_states_24 : decode c9_states 24 = .ok (.iload_n 1, 1) := by decide +kernel
theorem d9_states_25 : decode c9_states 25 = .ok (.aaload, 1) := by decide +kernel
theorem d9_states_26 : decode c9_states 26 = .ok (.getfield 158, 3) := by decide +kernel
theorem d9_states_29 : decode c9_states 29 = .ok (.ireturn, 1) := by decide +kernel
def t9_states (l : Launch) (Po : ri_O) : List ri_S := [i_al 1 0,
  i_il 2 1,
  i_callV 3 2 9 (ri_Ev l y9_isPlace w9_isPlace r9_isPlace 0 0) 0 0 0 0,
  i_if 4 6 (fun x => ¬ x = 0),
  i_con 5 (-1),
  i_ret Po 0 0,
  i_al 7 0,
  i_get 8 9 2,
  i_callV 9 1 4 (ri_Ev l y4_prepare w4_prepare r4_prepare 0 0) 0 0 0 0,
  i_al 10 0,
  i_get 11 9 2,
  i_get 12 4 2,
  i_il 13 1,
  i_aald 14 2,
  i_get 15 5 0,
  i_ret Po 0 0]
set_option maxRecDepth 20000 in
set_option maxHeartbeats 4000000 in
theorem z9_states (l : Launch) (Po : ri_O) (p : Program) (e : Env) (s : State) (m : MethodId) (args : Array Value) (below : List Frame) (meth : Method) (c : Code) (D : va_G) (ka : Nat → ClassId) (sa : Nat → Nat) (base : Nat) (X : ri_X p s m args c c9_states 2 w9_states "ChoraleSearch" D ka sa base) (hret : meth.sig.returnType = (some .int)) (hlocks : meth.locks = false) (hname : meth.name = "states") : ri_clo (ri_W p l e r9_states s m args below meth c D ka sa base 2 (MQ below (ri_Qc D ka sa base Po) args s 0 0 (fun q => base ≤ q)) p9_states) (t9_states l Po) := by
  refine ri_clo_of ?_
  unfold t9_states
  exact ⟨s_aload_n X d9_states_0 rfl rfl,
    s_iload_n X d9_states_1 rfl rfl,
    s_callV ri_NW_ok X (na := 1) (ci := 9) rfl ⟨ri_cB X 1 mgw_373 (List.mem_cons_of_mem _ mgw_1) (List.mem_cons_of_mem _ mgw_370) (by decide +kernel) rfl rfl ⟨by decide, by decide⟩, X.2.2.2.2.1 _ (List.mem_cons_of_mem _ mgw_372), X.2.2.2.2.1 _ (List.mem_cons_of_mem _ mgp_6)⟩ d9_states_2 rfl,
    s_if_ne X d9_states_5 rfl rfl,
    s_iconst X d9_states_8 rfl rfl,
    s_iret X hret hlocks d9_states_9,
    s_aload_n X d9_states_10 rfl rfl,
    s_get X (ci := 9) (f := 2) rfl (fun w h => List.mem_cons_of_mem _ (uC_9 w h)) (by decide) (List.mem_cons_of_mem _ mgw_327) d9_states_11 rfl,
    s_callVN ri_NW_ok X (na := 0) (ci := 4) rfl ⟨ri_cN X 0 mgw_419 (List.mem_cons_of_mem _ mgw_7) (List.mem_of_getElem? (i := 47) rfl) (by decide +kernel) rfl rfl ⟨by decide, by decide⟩, X.2.2.2.2.1 _ (List.mem_cons_of_mem _ mgw_418), X.2.2.2.2.1 _ (List.mem_cons_of_mem _ mgp_8)⟩ d9_states_14 rfl,
    s_aload_n X d9_states_17 rfl rfl,
    s_get X (ci := 9) (f := 2) rfl (fun w h => List.mem_cons_of_mem _ (uC_9 w h)) (by decide) (List.mem_cons_of_mem _ mgw_327) d9_states_18 rfl,
    s_getN X (ci := 4) (f := 2) rfl (fun w h => List.mem_cons_of_mem _ (uC_4 w h)) (by decide) (List.mem_of_getElem? (i := 35) rfl) d9_states_21 rfl,
    s_iload_n X d9_states_24 rfl rfl,
    s_aald X (kd := 2) rfl rfl d9_states_25 rfl,
    s_getN X (ci := 5) (f := 0) rfl (fun w h => List.mem_cons_of_mem _ (uC_5 w h)) (by decide) (List.mem_of_getElem? (i := 29) rfl) d9_states_26 rfl,
    s_iret X hret hlocks d9_states_29, trivial⟩
theorem d9_blocked_0 : decode c9_blocked 0 = .ok (.iload_n 1, 1) := by decide +kernel
theorem d9_blocked_1 : decode c9_blocked 1 = .ok (.ifCond .lt 8, 3) := by decide +kernel
theorem d9_blocked_4 : decode c9_blocked 4 = .ok (.iload_n 1, 1) := by decide +kernel
theorem d9_blocked_5 : decode c9_blocked 5 = .ok (.iconst 2, 1) := by decide +kernel
theorem d9_blocked_6 : decode c9_blocked 6 = .ok (.if_icmp .le 5, 3) := by decide +kernel
theorem d9_blocked_9 : decode c9_blocked 9 = .ok (.iconst (-1), 1) := by decide +kernel
theorem d9_blocked_10 : decode c9_blocked 10 = .ok (.ireturn, 1) := by decide +kernel
theorem d9_blocked_11 : decode c9_blocked 11 = .ok (.aload_n 0, 1) := by decide +kernel
theorem d9_blocked_12 : decode c9_blocked 12 = .ok (.getfield 38, 3) := by decide +kernel
theorem d9_blocked_15 : decode c9_blocked 15 = .ok (.invokevirtual 118, 3) := by decide +kernel
theorem d9_blocked_18 : decode c9_blocked 18 = .ok (.aload_n 0, 1) := by decide +kernel
theorem d9_blocked_19 : decode c9_blocked 19 = .ok (.getfield 38, 3) := by decide +kernel
theorem d9_blocked_22 : decode c9_blocked 22 = .ok (.invokevirtual 121, 3) := by decide +kernel
theorem d9_blocked_25 : decode c9_blocked 25 = .ok (.ifCond .eq 6, 3) := by decide +kernel
theorem d9_blocked_28 : decode c9_blocked 28 = .ok (.bipush (-3), 2) := by decide +kernel
theorem d9_blocked_30 : decode c9_blocked 30 = .ok (.ireturn, 1) := by decide +kernel
theorem d9_blocked_31 : decode c9_blocked 31 = .ok (.aload_n 0, 1) := by decide +kernel
theorem d9_blocked_32 : decode c9_blocked 32 = .ok (.getfield 47, 3) := by decide +kernel
theorem d9_blocked_35 : decode c9_blocked 35 = .ok (.invokevirtual 163, 3) := by decide +kernel
theorem d9_blocked_38 : decode c9_blocked 38 = .ok (.istore_n 2, 1) := by decide +kernel
theorem d9_blocked_39 : decode c9_blocked 39 = .ok (.iload_n 2, 1) := by decide +kernel
theorem d9_blocked_40 : decode c9_blocked 40 = .ok (.bipush (-2), 2) := by decide +kernel
theorem d9_blocked_42 : decode c9_blocked 42 = .ok (.if_icmp .ne 6, 3) := by decide +kernel
theorem d9_blocked_45 : decode c9_blocked 45 = .ok (.bipush (-2), 2) := by decide +kernel
theorem d9_blocked_47 : decode c9_blocked 47 = .ok (.ireturn, 1) := by decide +kernel
theorem d9_blocked_48 : decode c9_blocked 48 = .ok (.iload_n 1, 1) := by decide +kernel
theorem d9_blocked_49 : decode c9_blocked 49 = .ok (.lookupswitch 42 #[(0, 27), (1, 29)], 27) := by decide +kernel
theorem d9_blocked_76 : decode c9_blocked 76 = .ok (.iload_n 2, 1) := by decide +kernel
theorem d9_blocked_77 : decode c9_blocked 77 = .ok (.ireturn, 1) := by decide +kernel
theorem d9_blocked_78 : decode c9_blocked 78 = .ok (.aload_n 0, 1) := by decide +kernel
theorem d9_blocked_79 : decode c9_blocked 79 = .ok (.getfield 38, 3) := by decide +kernel
theorem d9_blocked_82 : decode c9_blocked 82 = .ok (.getfield 154, 3) := by decide +kernel
theorem d9_blocked_85 : decode c9_blocked 85 = .ok (.iload_n 2, 1) := by decide +kernel
theorem d9_blocked_86 : decode c9_blocked 86 = .ok (.aaload, 1) := by decide +kernel
theorem d9_blocked_87 : decode c9_blocked 87 = .ok (.getfield 158, 3) := by decide +kernel
theorem d9_blocked_90 : decode c9_blocked 90 = .ok (.ireturn, 1) := by decide +kernel
theorem d9_blocked_91 : decode c9_blocked 91 = .ok (.aload_n 0, 1) := by decide +kernel
theorem d9_blocked_92 : decode c9_blocked 92 = .ok (.getfield 47, 3) := by decide +kernel
theorem d9_blocked_95 : decode c9_blocked 95 = .ok (.iload_n 2, 1) := by decide +kernel
theorem d9_blocked_96 : decode c9_blocked 96 = .ok (.invokevirtual 167, 3) := by decide +kernel
theorem d9_blocked_99 : decode c9_blocked 99 = .ok (.ireturn, 1) := by decide +kernel
def t9_blocked (l : Launch) (Po : ri_O) : List ri_S := [i_il 1 1,
  i_if 2 5 (fun x => x < 0),
  i_il 3 1,
  i_con 4 2,
  i_icmp 5 7 (fun x y => x ≤ y),
  i_con 6 (-1),
  i_ret Po 0 0,
  i_al 8 0,
  i_get 9 9 2,
  i_callV 10 1 4 (ri_Ev l y4_prepare w4_prepare r4_prepare 0 0) 0 0 0 0,
  i_al 11 0,
  i_get 12 9 2,
  i_callV 13 1 4 (ri_Ev l y4_overflows w4_overflows r4_overflows 0 0) 0 0 0 0,
  i_if 14 16 (fun x => x = 0),
  i_con 15 (-3),
  i_ret Po 0 0,
  i_al 17 0,
  i_get 18 9 3,
  i_callV 19 1 6 (ri_Ev l y6_firstUnreached w6_firstUnreached r6_firstUnreached 0 0) 0 0 0 0,
  i_is 20 2,
  i_il 21 2,
  i_con 22 (-2),
  i_icmp 23 25 (fun x y => ¬ x = y),
  i_con 24 (-2),
  i_ret Po 0 0,
  i_il 26 1,
  i_sw [(0, 27), (1, 29)] 36,
  i_il 28 2,
  i_ret Po 0 0,
  i_al 30 0,
  i_get 31 9 2,
  i_get 32 4 2,
  i_il 33 2,
  i_aald 34 2,
  i_get 35 5 0,
  i_ret Po 0 0,
  i_al 37 0,
  i_get 38 9 3,
  i_il 39 2,
  i_callV 40 2 6 (ri_Ev l y6_barringRules w6_barringRules r6_barringRules 0 0) 0 0 0 0,
  i_ret Po 0 0]
set_option maxRecDepth 20000 in
set_option maxHeartbeats 4000000 in
theorem z9_blocked (l : Launch) (Po : ri_O) (p : Program) (e : Env) (s : State) (m : MethodId) (args : Array Value) (below : List Frame) (meth : Method) (c : Code) (D : va_G) (ka : Nat → ClassId) (sa : Nat → Nat) (base : Nat) (X : ri_X p s m args c c9_blocked 3 w9_blocked "ChoraleSearch" D ka sa base) (hret : meth.sig.returnType = (some .int)) (hlocks : meth.locks = false) (hname : meth.name = "blocked") : ri_clo (ri_W p l e r9_blocked s m args below meth c D ka sa base 3 (MQ below (ri_Qc D ka sa base Po) args s 0 0 (fun q => base ≤ q)) p9_blocked) (t9_blocked l Po) := by
  refine ri_clo_of ?_
  unfold t9_blocked
  exact ⟨s_iload_n X d9_blocked_0 rfl rfl,
    s_if_lt X d9_blocked_1 rfl rfl,
    s_iload_n X d9_blocked_4 rfl rfl,
    s_iconst X d9_blocked_5 rfl rfl,
    s_icmp_le X d9_blocked_6 rfl rfl,
    s_iconst X d9_blocked_9 rfl rfl,
    s_iret X hret hlocks d9_blocked_10,
    s_aload_n X d9_blocked_11 rfl rfl,
    s_get X (ci := 9) (f := 2) rfl (fun w h => List.mem_cons_of_mem _ (uC_9 w h)) (by decide) (List.mem_cons_of_mem _ mgw_327) d9_blocked_12 rfl,
    s_callVN ri_NW_ok X (na := 0) (ci := 4) rfl ⟨ri_cN X 0 mgw_419 (List.mem_cons_of_mem _ mgw_7) (List.mem_of_getElem? (i := 47) rfl) (by decide +kernel) rfl rfl ⟨by decide, by decide⟩, X.2.2.2.2.1 _ (List.mem_cons_of_mem _ mgw_418), X.2.2.2.2.1 _ (List.mem_cons_of_mem _ mgp_8)⟩ d9_blocked_15 rfl,
    s_aload_n X d9_blocked_18 rfl rfl,
    s_get X (ci := 9) (f := 2) rfl (fun w h => List.mem_cons_of_mem _ (uC_9 w h)) (by decide) (List.mem_cons_of_mem _ mgw_327) d9_blocked_19 rfl,
    s_callVN ri_NW_ok X (na := 0) (ci := 4) rfl ⟨ri_cN X 0 mgw_506 (List.mem_cons_of_mem _ mgw_7) (List.mem_of_getElem? (i := 61) rfl) (by decide +kernel) rfl rfl ⟨by decide, by decide⟩, X.2.2.2.2.1 _ (List.mem_cons_of_mem _ mgw_505), X.2.2.2.2.1 _ (List.mem_cons_of_mem _ mgp_25)⟩ d9_blocked_22 rfl,
    s_if_eq X d9_blocked_25 rfl rfl,
    s_bipush X d9_blocked_28 rfl rfl,
    s_iret X hret hlocks d9_blocked_30,
    s_aload_n X d9_blocked_31 rfl rfl,
    s_get X (ci := 9) (f := 3) rfl (fun w h => List.mem_cons_of_mem _ (uC_9 w h)) (by decide) (List.mem_cons_of_mem _ mgw_328) d9_blocked_32 rfl,
    s_callVN ri_NW_ok X (na := 0) (ci := 6) rfl ⟨ri_cN X 0 mgw_683 (List.mem_cons_of_mem _ mgw_9) (List.mem_of_getElem? (i := 82) rfl) (by decide +kernel) rfl rfl ⟨by decide, by decide⟩, X.2.2.2.2.1 _ (List.mem_cons_of_mem _ mgw_682), X.2.2.2.2.1 _ (List.mem_cons_of_mem _ mgp_53)⟩ d9_blocked_35 rfl,
    s_istore_n X d9_blocked_38 rfl (by decide) rfl,
    s_iload_n X d9_blocked_39 rfl rfl,
    s_bipush X d9_blocked_40 rfl rfl,
    s_icmp_ne X d9_blocked_42 rfl rfl,
    s_bipush X d9_blocked_45 rfl rfl,
    s_iret X hret hlocks d9_blocked_47,
    s_iload_n X d9_blocked_48 rfl rfl,
    s_lsw X d9_blocked_49 (by decide) rfl rfl (ri_lsw_ck (by decide)),
    s_iload_n X d9_blocked_76 rfl rfl,
    s_iret X hret hlocks d9_blocked_77,
    s_aload_n X d9_blocked_78 rfl rfl,
    s_get X (ci := 9) (f := 2) rfl (fun w h => List.mem_cons_of_mem _ (uC_9 w h)) (by decide) (List.mem_cons_of_mem _ mgw_327) d9_blocked_79 rfl,
    s_getN X (ci := 4) (f := 2) rfl (fun w h => List.mem_cons_of_mem _ (uC_4 w h)) (by decide) (List.mem_of_getElem? (i := 35) rfl) d9_blocked_82 rfl,
    s_iload_n X d9_blocked_85 rfl rfl,
    s_aald X (kd := 2) rfl rfl d9_blocked_86 rfl,
    s_getN X (ci := 5) (f := 0) rfl (fun w h => List.mem_cons_of_mem _ (uC_5 w h)) (by decide) (List.mem_of_getElem? (i := 29) rfl) d9_blocked_87 rfl,
    s_iret X hret hlocks d9_blocked_90,
    s_aload_n X d9_blocked_91 rfl rfl,
    s_get X (ci := 9) (f := 3) rfl (fun w h => List.mem_cons_of_mem _ (uC_9 w h)) (by decide) (List.mem_cons_of_mem _ mgw_328) d9_blocked_92 rfl,
    s_iload_n X d9_blocked_95 rfl rfl,
    s_callVN ri_NW_ok X (na := 1) (ci := 6) rfl ⟨ri_cN X 1 mgw_701 (List.mem_cons_of_mem _ mgw_9) (List.mem_of_getElem? (i := 86) rfl) (by decide +kernel) rfl rfl ⟨by decide, by decide⟩, X.2.2.2.2.1 _ (List.mem_cons_of_mem _ mgw_700), X.2.2.2.2.1 _ (List.mem_cons_of_mem _ mgp_57)⟩ d9_blocked_96 rfl,
    s_iret X hret hlocks d9_blocked_99, trivial⟩
theorem d9_repair_0 : decode c9_repair 0 = .ok (.aload_n 0, 1) := by decide +kernel
theorem d9_repair_1 : decode c9_repair 1 = .ok (.getfield 38, 3) := by decide +kernel
theorem d9_repair_4 : decode c9_repair 4 = .ok (.invokevirtual 118, 3) := by decide +kernel
theorem d9_repair_7 : decode c9_repair 7 = .ok (.aload_n 0, 1) := by decide +kernel
theorem d9_repair_8 : decode c9_repair 8 = .ok (.getfield 38, 3) := by decide +kernel
theorem d9_repair_11 : decode c9_repair 11 = .ok (.invokevirtual 121, 3) := by decide +kernel
theorem d9_repair_14 : decode c9_repair 14 = .ok (.ifCond .eq 6, 3) := by decide +kernel
theorem d9_repair_17 : decode c9_repair 17 = .ok (.bipush (-3), 2) := by decide +kernel
theorem d9_repair_19 : decode c9_repair 19 = .ok (.ireturn, 1) := by decide +kernel
theorem d9_repair_20 : decode c9_repair 20 = .ok (.aload_n 0, 1) := by decide +kernel
theorem d9_repair_21 : decode c9_repair 21 = .ok (.getfield 47, 3) := by decide +kernel
theorem d9_repair_24 : decode c9_repair 24 = .ok (.invokevirtual 163, 3) := by decide +kernel
theorem d9_repair_27 : decode c9_repair 27 = .ok (.bipush (-2), 2) := by decide +kernel
theorem d9_repair_29 : decode c9_repair 29 = .ok (.if_icmp .ne 5, 3) := by decide +kernel
theorem d9_repair_32 : decode c9_repair 32 = .ok (.iconst (-1), 1) := by decide +kernel
theorem d9_repair_33 : decode c9_repair 33 = .ok (.ireturn, 1) := by decide +kernel
theorem d9_repair_34 : decode c9_repair 34 = .ok (.aload_n 0, 1) := by decide +kernel
theorem d9_repair_35 : decode c9_repair 35 = .ok (.getfield 47, 3) := by decide +kernel
theorem d9_repair_38 : decode c9_repair 38 = .ok (.invokevirtual 170, 3) := by decide +kernel
theorem d9_repair_41 : decode c9_repair 41 = .ok (.ireturn, 1) := by decide +kernel
def t9_repair (l : Launch) (Po : ri_O) : List ri_S := [i_al 1 0,
  i_get 2 9 2,
  i_callV 3 1 4 (ri_Ev l y4_prepare w4_prepare r4_prepare 0 0) 0 0 0 0,
  i_al 4 0,
  i_get 5 9 2,
  i_callV 6 1 4 (ri_Ev l y4_overflows w4_overflows r4_overflows 0 0) 0 0 0 0,
  i_if 7 9 (fun x => x = 0),
  i_con 8 (-3),
  i_ret Po 0 0,
  i_al 10 0,
  i_get 11 9 3,
  i_callV 12 1 6 (ri_Ev l y6_firstUnreached w6_firstUnreached r6_firstUnreached 0 0) 0 0 0 0,
  i_con 13 (-2),
  i_icmp 14 16 (fun x y => ¬ x = y),
  i_con 15 (-1),
  i_ret Po 0 0,
  i_al 17 0,
  i_get 18 9 3,
  i_callV 19 1 6 (ri_Ev l y6_noteToGiveWay w6_noteToGiveWay r6_noteToGiveWay 0 0) 0 0 0 0,
  i_ret Po 0 0]
set_option maxRecDepth 20000 in
set_option maxHeartbeats 4000000 in
theorem z9_repair (l : Launch) (Po : ri_O) (p : Program) (e : Env) (s : State) (m : MethodId) (args : Array Value) (below : List Frame) (meth : Method) (c : Code) (D : va_G) (ka : Nat → ClassId) (sa : Nat → Nat) (base : Nat) (X : ri_X p s m args c c9_repair 1 w9_repair "ChoraleSearch" D ka sa base) (hret : meth.sig.returnType = (some .int)) (hlocks : meth.locks = false) (hname : meth.name = "repair") : ri_clo (ri_W p l e r9_repair s m args below meth c D ka sa base 1 (MQ below (ri_Qc D ka sa base Po) args s 0 0 (fun q => base ≤ q)) p9_repair) (t9_repair l Po) := by
  refine ri_clo_of ?_
  unfold t9_repair
  exact ⟨s_aload_n X d9_repair_0 rfl rfl,
    s_get X (ci := 9) (f := 2) rfl (fun w h => List.mem_cons_of_mem _ (uC_9 w h)) (by decide) (List.mem_cons_of_mem _ mgw_327) d9_repair_1 rfl,
    s_callVN ri_NW_ok X (na := 0) (ci := 4) rfl ⟨ri_cN X 0 mgw_419 (List.mem_cons_of_mem _ mgw_7) (List.mem_of_getElem? (i := 47) rfl) (by decide +kernel) rfl rfl ⟨by decide, by decide⟩, X.2.2.2.2.1 _ (List.mem_cons_of_mem _ mgw_418), X.2.2.2.2.1 _ (List.mem_cons_of_mem _ mgp_8)⟩ d9_repair_4 rfl,
    s_aload_n X d9_repair_7 rfl rfl,
    s_get X (ci := 9) (f := 2) rfl (fun w h => List.mem_cons_of_mem _ (uC_9 w h)) (by decide) (List.mem_cons_of_mem _ mgw_327) d9_repair_8 rfl,
    s_callVN ri_NW_ok X (na := 0) (ci := 4) rfl ⟨ri_cN X 0 mgw_506 (List.mem_cons_of_mem _ mgw_7) (List.mem_of_getElem? (i := 61) rfl) (by decide +kernel) rfl rfl ⟨by decide, by decide⟩, X.2.2.2.2.1 _ (List.mem_cons_of_mem _ mgw_505), X.2.2.2.2.1 _ (List.mem_cons_of_mem _ mgp_25)⟩ d9_repair_11 rfl,
    s_if_eq X d9_repair_14 rfl rfl,
    s_bipush X d9_repair_17 rfl rfl,
    s_iret X hret hlocks d9_repair_19,
    s_aload_n X d9_repair_20 rfl rfl,
    s_get X (ci := 9) (f := 3) rfl (fun w h => List.mem_cons_of_mem _ (uC_9 w h)) (by decide) (List.mem_cons_of_mem _ mgw_328) d9_repair_21 rfl,
    s_callVN ri_NW_ok X (na := 0) (ci := 6) rfl ⟨ri_cN X 0 mgw_683 (List.mem_cons_of_mem _ mgw_9) (List.mem_of_getElem? (i := 82) rfl) (by decide +kernel) rfl rfl ⟨by decide, by decide⟩, X.2.2.2.2.1 _ (List.mem_cons_of_mem _ mgw_682), X.2.2.2.2.1 _ (List.mem_cons_of_mem _ mgp_53)⟩ d9_repair_24 rfl,
    s_bipush X d9_repair_27 rfl rfl,
    s_icmp_ne X d9_repair_29 rfl rfl,
    s_iconst X d9_repair_32 rfl rfl,
    s_iret X hret hlocks d9_repair_33,
    s_aload_n X d9_repair_34 rfl rfl,
    s_get X (ci := 9) (f := 3) rfl (fun w h => List.mem_cons_of_mem _ (uC_9 w h)) (by decide) (List.mem_cons_of_mem _ mgw_328) d9_repair_35 rfl,
    s_callVN ri_NW_ok X (na := 0) (ci := 6) rfl ⟨ri_cN X 0 mgw_761 (List.mem_cons_of_mem _ mgw_9) (List.mem_of_getElem? (i := 89) rfl) (by decide +kernel) rfl rfl ⟨by decide, by decide⟩, X.2.2.2.2.1 _ (List.mem_cons_of_mem _ mgw_760), X.2.2.2.2.1 _ (List.mem_cons_of_mem _ mgp_71)⟩ d9_repair_38 rfl,
    s_iret X hret hlocks d9_repair_41, trivial⟩
theorem d9_passing_0 : decode c9_passing 0 = .ok (.aload_n 0, 1) := by decide +kernel
theorem d9_passing_1 : decode c9_passing 1 = .ok (.iconst 0, 1) := by decide +kernel
theorem d9_passing_2 : decode c9_passing 2 = .ok (.invokevirtual 131, 3) := by decide +kernel
theorem d9_passing_5 : decode c9_passing 5 = .ok (.ifCond .eq 27, 3) := by decide +kernel
theorem d9_passing_8 : decode c9_passing 8 = .ok (.iload_n 1, 1) := by decide +kernel
theorem d9_passing_9 : decode c9_passing 9 = .ok (.ifCond .lt 23, 3) := by decide +kernel
theorem d9_passing_12 : decode c9_passing 12 = .ok (.iload_n 1, 1) := by decide +kernel
theorem d9_passing_13 : decode c9_passing 13 = .ok (.aload_n 0, 1) := by decide +kernel
theorem d9_passing_14 : decode c9_passing 14 = .ok (.getfield 10, 3) := by decide +kernel
theorem d9_passing_17 : decode c9_passing 17 = .ok (.getfield 70, 3) := by decide +kernel
theorem d9_passing_20 : decode c9_passing 20 = .ok (.iconst 1, 1) := by decide +kernel
theorem d9_passing_21 : decode c9_passing 21 = .ok (.isub, 1) := by decide +kernel
theorem d9_passing_22 : decode c9_passing 22 = .ok (.if_icmp .ge 10, 3) := by decide +kernel
theorem d9_passing_25 : decode c9_passing 25 = .ok (.iload_n 2, 1) := by decide +kernel
theorem d9_passing_26 : decode c9_passing 26 = .ok (.invokestatic 78, 3) := by decide +kernel
theorem d9_passing_29 : decode c9_passing 29 = .ok (.ifCond .ne 5, 3) := by decide +kernel
theorem d9_passing_32 : decode c9_passing 32 = .ok (.iconst (-1), 1) := by decide +kernel
theorem d9_passing_33 : decode c9_passing 33 = .ok (.ireturn, 1) := by decide +kernel
theorem d9_passing_34 : decode c9_passing 34 = .ok (.aload_n 0, 1) := by decide +kernel
theorem d9_passing_35 : decode c9_passing 35 = .ok (.getfield 59, 3) := by decide +kernel
theorem d9_passing_38 : decode c9_passing 38 = .ok (.iconst 0, 1) := by decide +kernel
theorem d9_passing_39 : decode c9_passing 39 = .ok (.iload_n 1, 1) := by decide +kernel
theorem d9_passing_40 : decode c9_passing 40 = .ok (.invokevirtual 134, 3) := by decide +kernel
theorem d9_passing_43 : decode c9_passing 43 = .ok (.iload_n 2, 1) := by decide +kernel
theorem d9_passing_44 : decode c9_passing 44 = .ok (.invokestatic 138, 3) := by decide +kernel
theorem d9_passing_47 : decode c9_passing 47 = .ok (.istore_n 3, 1) := by decide +kernel
theorem d9_passing_48 : decode c9_passing 48 = .ok (.aload_n 0, 1) := by decide +kernel
theorem d9_passing_49 : decode c9_passing 49 = .ok (.getfield 59, 3) := by decide +kernel
theorem d9_passing_52 : decode c9_passing 52 = .ok (.iconst 0, 1) := by decide +kernel
theorem d9_passing_53 : decode c9_passing 53 = .ok (.iload_n 1, 1) := by decide +kernel
theorem d9_passing_54 : decode c9_passing 54 = .ok (.iconst 1, 1) := by decide +kernel
theorem d9_passing_55 : decode c9_passing 55 = .ok (.iadd, 1) := by decide +kernel
theorem d9_passing_56 : decode c9_passing 56 = .ok (.invokevirtual 134, 3) := by decide +kernel
theorem d9_passing_59 : decode c9_passing 59 = .ok (.iload_n 2, 1) := by decide +kernel
theorem d9_passing_60 : decode c9_passing 60 = .ok (.invokestatic 138, 3) := by decide +kernel
theorem d9_passing_63 : decode c9_passing 63 = .ok (.istore 4, 2) := by decide +kernel
theorem d9_passing_65 : decode c9_passing 65 = .ok (.iload 4, 2) := by decide +kernel
theorem d9_passing_67 : decode c9_passing 67 = .ok (.iload_n 3, 1) := by decide +kernel
theorem d9_passing_68 : decode c9_passing 68 = .ok (.isub, 1) := by decide +kernel
theorem d9_passing_69 : decode c9_passing 69 = .ok (.invokestatic 173, 3) := by decide +kernel
theorem d9_passing_72 : decode c9_passing 72 = .ok (.istore 5, 2) := by decide +kernel
theorem d9_passing_74 : decode c9_passing 74 = .ok (.iload 5, 2) := by decide +kernel
theorem d9_passing_76 : decode c9_passing 76 = .ok (.iconst 3, 1) := by decide +kernel
theorem d9_passing_77 : decode c9_passing 77 = .ok (.if_icmp .eq 12, 3) := by decide +kernel
theorem d9_passing_80 : decode c9_passing 80 = .ok (.iload 5, 2) := by decide +kernel
theorem d9_passing_82 : decode c9_passing 82 = .ok (.iconst 4, 1) := by decide +kernel
theorem d9_passing_83 : decode c9_passing 83 = .ok (.if_icmp .eq 6, 3) := by decide +kernel
theorem d9_passing_86 : decode c9_passing 86 = .ok (.bipush (-2), 2) := by decide +kernel
theorem d9_passing_88 : decode c9_passing 88 = .ok (.ireturn, 1) := by decide +kernel
theorem d9_passing_89 : decode c9_passing 89 = .ok (.iload_n 3, 1) := by decide +kernel
theorem d9_passing_90 : decode c9_passing 90 = .ok (.iload 4, 2) := by decide +kernel
theorem d9_passing_92 : decode c9_passing 92 = .ok (.invokestatic 178, 3) := by decide +kernel
theorem d9_passing_95 : decode c9_passing 95 = .ok (.istore 6, 2) := by decide +kernel
theorem d9_passing_97 : decode c9_passing 97 = .ok (.aload_n 0, 1) := by decide +kernel
theorem d9_passing_98 : decode c9_passing 98 = .ok (.getfield 19, 3) := by decide +kernel
theorem d9_passing_101 : decode c9_passing 101 = .ok (.iload 6, 2) := by decide +kernel
theorem d9_passing_103 : decode c9_passing 103 = .ok (.iconst 1, 1) := by decide +kernel
theorem d9_passing_104 : decode c9_passing 104 = .ok (.iadd, 1) := by decide +kernel
theorem d9_passing_105 : decode c9_passing 105 = .ok (.invokevirtual 181, 3) := by decide +kernel
theorem d9_passing_108 : decode c9_passing 108 = .ok (.ifCond .eq 8, 3) := by decide +kernel
theorem d9_passing_111 : decode c9_passing 111 = .ok (.iload 6, 2) := by decide +kernel
theorem d9_passing_113 : decode c9_passing 113 = .ok (.iconst 1, 1) := by decide +kernel
theorem d9_passing_114 : decode c9_passing 114 = .ok (.iadd, 1) := by decide +kernel
theorem d9_passing_115 : decode c9_passing 115 = .ok (.ireturn, 1) := by decide +kernel
theorem d9_passing_116 : decode c9_passing 116 = .ok (.aload_n 0, 1) := by decide +kernel
theorem d9_passing_117 : decode c9_passing 117 = .ok (.getfield 19, 3) := by decide +kernel
theorem d9_passing_120 : decode c9_passing 120 = .ok (.iload 6, 2) := by decide +kernel
theorem d9_passing_122 : decode c9_passing 122 = .ok (.iconst 2, 1) := by decide +kernel
theorem d9_passing_123 : decode c9_passing 123 = .ok (.iadd, 1) := by decide +kernel
theorem d9_passing_124 : decode c9_passing 124 = .ok (.invokevirtual 181, 3) := by decide +kernel
theorem d9_passing_127 : decode c9_passing 127 = .ok (.ifCond .eq 10, 3) := by decide +kernel
theorem d9_passing_130 : decode c9_passing 130 = .ok (.iload 6, 2) := by decide +kernel
theorem d9_passing_132 : decode c9_passing 132 = .ok (.iconst 2, 1) := by decide +kernel
theorem d9_passing_133 : decode c9_passing 133 = .ok (.iadd, 1) := by decide +kernel
theorem d9_passing_134 : decode c9_passing 134 = .ok (.goto 5, 3) := by decide +kernel
theorem d9_passing_137 : decode c9_passing 137 = .ok (.bipush (-2), 2) := by decide +kernel
theorem d9_passing_139 : decode c9_passing 139 = .ok (.ireturn, 1) := by decide +kernel
def t9_passing (l : Launch) (Po : ri_O) : List ri_S := [i_al 1 0,
  i_con 2 0,
  i_callV 3 2 9 (ri_Ev l y9_isRow w9_isRow r9_isRow 0 0) 0 0 0 0,
  i_if 4 16 (fun x => x = 0),
  i_il 5 1,
  i_if 6 16 (fun x => x < 0),
  i_il 7 1,
  i_al 8 0,
  i_get 9 9 0,
  i_get 10 0 0,
  i_con 11 1,
  i_bin 12 (fun x y => x - y),
  i_icmp 13 16 (fun x y => y ≤ x),
  i_il 14 2,
  i_call 15 1 (ri_Ev l y9_isVoice w9_isVoice r9_isVoice 0 0) 0 0 0 0,
  i_if 16 18 (fun x => ¬ x = 0),
  i_con 17 (-1),
  i_ret Po 0 0,
  i_al 19 0,
  i_get 20 9 4,
  i_con 21 0,
  i_il 22 1,
  i_callV 23 3 8 (ri_Ev l y8_codeAt w8_codeAt r8_codeAt 0 0) 0 0 0 0,
  i_il 24 2,
  i_call 25 2 (ri_Ev l y11_pitchOf w11_pitchOf r11_pitchOf 0 0) 0 0 0 0,
  i_is 26 3,
  i_al 27 0,
  i_get 28 9 4,
  i_con 29 0,
  i_il 30 1,
  i_con 31 1,
  i_bin 32 (fun x y => x + y),
  i_callV 33 3 8 (ri_Ev l y8_codeAt w8_codeAt r8_codeAt 0 0) 0 0 0 0,
  i_il 34 2,
  i_call 35 2 (ri_Ev l y11_pitchOf w11_pitchOf r11_pitchOf 0 0) 0 0 0 0,
  i_is 36 4,
  i_il 37 4,
  i_il 38 3,
  i_bin 39 (fun x y => x - y),
  i_m1 40 (fun x => if 0 ≤ x then x else 0 - x) 2 45 0 0,
  i_is 41 5,
  i_il 42 5,
  i_con 43 3,
  i_icmp 44 49 (fun x y => x = y),
  i_il 45 5,
  i_con 46 4,
  i_icmp 47 49 (fun x y => x = y),
  i_con 48 (-2),
  i_ret Po 0 0,
  i_il 50 3,
  i_il 51 4,
  i_m2 52 (fun x y => if y < x then y else x) 2 45 0 0,
  i_is 53 6,
  i_al 54 0,
  i_get 55 9 1,
  i_il 56 6,
  i_con 57 1,
  i_bin 58 (fun x y => x + y),
  i_callV 59 2 1 (ri_Ev l y1_inScale w1_inScale r1_inScale 0 0) 0 0 0 0,
  i_if 60 64 (fun x => x = 0),
  i_il 61 6,
  i_con 62 1,
  i_bin 63 (fun x y => x + y),
  i_ret Po 0 0,
  i_al 65 0,
  i_get 66 9 1,
  i_il 67 6,
  i_con 68 2,
  i_bin 69 (fun x y => x + y),
  i_callV 70 2 1 (ri_Ev l y1_inScale w1_inScale r1_inScale 0 0) 0 0 0 0,
  i_if 71 75 (fun x => x = 0),
  i_il 72 6,
  i_con 73 2,
  i_bin 74 (fun x y => x + y),
  i_goto 76,
  i_con 76 (-2),
  i_ret Po 0 0]
set_option maxRecDepth 20000 in
set_option maxHeartbeats 4000000 in
theorem z9_passing (l : Launch) (Po : ri_O) (p : Program) (e : Env) (s : State) (m : MethodId) (args : Array Value) (below : List Frame) (meth : Method) (c : Code) (D : va_G) (ka : Nat → ClassId) (sa : Nat → Nat) (base : Nat) (X : ri_X p s m args c c9_passing 7 w9_passing "ChoraleSearch" D ka sa base) (hret : meth.sig.returnType = (some .int)) (hlocks : meth.locks = false) (hname : meth.name = "passing") : ri_clo (ri_W p l e r9_passing s m args below meth c D ka sa base 7 (MQ below (ri_Qc D ka sa base Po) args s 0 0 (fun q => base ≤ q)) p9_passing) (t9_passing l Po) := by
  refine ri_clo_of ?_
  unfold t9_passing
  exact ⟨s_aload_n X d9_passing_0 rfl rfl,
    s_iconst X d9_passing_1 rfl rfl,
    s_callV ri_NW_ok X (na := 1) (ci := 9) rfl ⟨ri_cB X 1 mgw_653 (List.mem_cons_of_mem _ mgw_1) (List.mem_cons_of_mem _ mgw_650) (by decide +kernel) rfl rfl ⟨by decide, by decide⟩, X.2.2.2.2.1 _ (List.mem_cons_of_mem _ mgw_652), X.2.2.2.2.1 _ (List.mem_cons_of_mem _ mgp_51)⟩ d9_passing_2 rfl,
    s_if_eq X d9_passing_5 rfl rfl,
    s_iload_n X d9_passing_8 rfl rfl,
    s_if_lt X d9_passing_9 rfl rfl,
    s_iload_n X d9_passing_12 rfl rfl,
    s_aload_n X d9_passing_13 rfl rfl,
    s_get X (ci := 9) (f := 0) rfl (fun w h => List.mem_cons_of_mem _ (uC_9 w h)) (by decide) (List.mem_cons_of_mem _ mgw_325) d9_passing_14 rfl,
    s_getN X (ci := 0) (f := 0) rfl (fun w h => List.mem_cons_of_mem _ (uC_0 w h)) (by decide) (List.mem_of_getElem? (i := 3) rfl) d9_passing_17 rfl,
    s_iconst X d9_passing_20 rfl rfl,
    s_isub X d9_passing_21 rfl,
    s_icmp_ge X d9_passing_22 rfl rfl,
    s_iload_n X d9_passing_25 rfl rfl,
    s_callS ri_NW_ok X ⟨ri_cB X 1 mgw_369 (List.mem_cons_of_mem _ mgw_1) (List.mem_cons_of_mem _ mgw_367) (by decide +kernel) rfl rfl ⟨by decide, by decide⟩, X.2.2.2.2.1 _ (List.mem_cons_of_mem _ mgw_368)⟩ d9_passing_26 rfl,
    s_if_ne X d9_passing_29 rfl rfl,
    s_iconst X d9_passing_32 rfl rfl,
    s_iret X hret hlocks d9_passing_33,
    s_aload_n X d9_passing_34 rfl rfl,
    s_get X (ci := 9) (f := 4) rfl (fun w h => List.mem_cons_of_mem _ (uC_9 w h)) (by decide) (List.mem_cons_of_mem _ mgw_329) d9_passing_35 rfl,
    s_iconst X d9_passing_38 rfl rfl,
    s_iload_n X d9_passing_39 rfl rfl,
    s_callVN ri_NW_ok X (na := 2) (ci := 8) rfl ⟨ri_cN X 2 mgw_657 (List.mem_cons_of_mem _ mgw_10) (List.mem_of_getElem? (i := 79) rfl) (by decide +kernel) rfl rfl ⟨by decide, by decide⟩, X.2.2.2.2.1 _ (List.mem_cons_of_mem _ mgw_656), X.2.2.2.2.1 _ (List.mem_cons_of_mem _ mgp_52)⟩ d9_passing_40 rfl,
    s_iload_n X d9_passing_43 rfl rfl,
    s_callSN ri_NW_ok X ⟨ri_cN X 2 mgw_532 (List.mem_cons_of_mem _ mgw_14) (List.mem_of_getElem? (i := 80) rfl) (by decide +kernel) rfl rfl ⟨by decide, by decide⟩, X.2.2.2.2.1 _ (List.mem_cons_of_mem _ mgw_531), trivial⟩ d9_passing_44 rfl,
    s_istore_n X d9_passing_47 rfl (by decide) rfl,
    s_aload_n X d9_passing_48 rfl rfl,
    s_get X (ci := 9) (f := 4) rfl (fun w h => List.mem_cons_of_mem _ (uC_9 w h)) (by decide) (List.mem_cons_of_mem _ mgw_329) d9_passing_49 rfl,
    s_iconst X d9_passing_52 rfl rfl,
    s_iload_n X d9_passing_53 rfl rfl,
    s_iconst X d9_passing_54 rfl rfl,
    s_iadd X d9_passing_55 rfl,
    s_callVN ri_NW_ok X (na := 2) (ci := 8) rfl ⟨ri_cN X 2 mgw_657 (List.mem_cons_of_mem _ mgw_10) (List.mem_of_getElem? (i := 79) rfl) (by decide +kernel) rfl rfl ⟨by decide, by decide⟩, X.2.2.2.2.1 _ (List.mem_cons_of_mem _ mgw_656), X.2.2.2.2.1 _ (List.mem_cons_of_mem _ mgp_52)⟩ d9_passing_56 rfl,
    s_iload_n X d9_passing_59 rfl rfl,
    s_callSN ri_NW_ok X ⟨ri_cN X 2 mgw_532 (List.mem_cons_of_mem _ mgw_14) (List.mem_of_getElem? (i := 80) rfl) (by decide +kernel) rfl rfl ⟨by decide, by decide⟩, X.2.2.2.2.1 _ (List.mem_cons_of_mem _ mgw_531), trivial⟩ d9_passing_60 rfl,
    s_istore X d9_passing_63 (by decide) rfl,
    s_iload X d9_passing_65 rfl,
    s_iload_n X d9_passing_67 rfl rfl,
    s_isub X d9_passing_68 rfl,
    s_abs X (List.mem_cons_of_mem _ mgw_780) (List.mem_cons_of_mem _ mgw_586) (List.mem_cons_of_mem _ mgw_13) (List.mem_cons_of_mem _ mgw_587) d9_passing_69 rfl,
    s_istore X d9_passing_72 (by decide) rfl,
    s_iload X d9_passing_74 rfl,
    s_iconst X d9_passing_76 rfl rfl,
    s_icmp_eq X d9_passing_77 rfl rfl,
    s_iload X d9_passing_80 rfl,
    s_iconst X d9_passing_82 rfl rfl,
    s_icmp_eq X d9_passing_83 rfl rfl,
    s_bipush X d9_passing_86 rfl rfl,
    s_iret X hret hlocks d9_passing_88,
    s_iload_n X d9_passing_89 rfl rfl,
    s_iload X d9_passing_90 rfl,
    s_min X (List.mem_cons_of_mem _ mgw_781) (List.mem_cons_of_mem _ mgw_440) (List.mem_cons_of_mem _ mgw_13) (List.mem_cons_of_mem _ mgw_441) d9_passing_92 rfl,
    s_istore X d9_passing_95 (by decide) rfl,
    s_aload_n X d9_passing_97 rfl rfl,
    s_get X (ci := 9) (f := 1) rfl (fun w h => List.mem_cons_of_mem _ (uC_9 w h)) (by decide) (List.mem_cons_of_mem _ mgw_326) d9_passing_98 rfl,
    s_iload X d9_passing_101 rfl,
    s_iconst X d9_passing_103 rfl rfl,
    s_iadd X d9_passing_104 rfl,
    s_callVN ri_NW_ok X (na := 1) (ci := 1) rfl ⟨ri_cN X 1 mgw_785 (List.mem_cons_of_mem _ mgw_3) (List.mem_of_getElem? (i := 92) rfl) (by decide +kernel) rfl rfl ⟨by decide, by decide⟩, X.2.2.2.2.1 _ (List.mem_cons_of_mem _ mgw_784), X.2.2.2.2.1 _ (List.mem_cons_of_mem _ mgp_75)⟩ d9_passing_105 rfl,
    s_if_eq X d9_passing_108 rfl rfl,
    s_iload X d9_passing_111 rfl,
    s_iconst X d9_passing_113 rfl rfl,
    s_iadd X d9_passing_114 rfl,
    s_iret X hret hlocks d9_passing_115,
    s_aload_n X d9_passing_116 rfl rfl,
    s_get X (ci := 9) (f := 1) rfl (fun w h => List.mem_cons_of_mem _ (uC_9 w h)) (by decide) (List.mem_cons_of_mem _ mgw_326) d9_passing_117 rfl,
    s_iload X d9_passing_120 rfl,
    s_iconst X d9_passing_122 rfl rfl,
    s_iadd X d9_passing_123 rfl,
    s_callVN ri_NW_ok X (na := 1) (ci := 1) rfl ⟨ri_cN X 1 mgw_785 (List.mem_cons_of_mem _ mgw_3) (List.mem_of_getElem? (i := 92) rfl) (by decide +kernel) rfl rfl ⟨by decide, by decide⟩, X.2.2.2.2.1 _ (List.mem_cons_of_mem _ mgw_784), X.2.2.2.2.1 _ (List.mem_cons_of_mem _ mgp_75)⟩ d9_passing_124 rfl,
    s_if_eq X d9_passing_127 rfl rfl,
    s_iload X d9_passing_130 rfl,
    s_iconst X d9_passing_132 rfl rfl,
    s_iadd X d9_passing_133 rfl,
    s_goto X d9_passing_134 rfl,
    s_bipush X d9_passing_137 rfl rfl,
    s_iret X hret hlocks d9_passing_139, trivial⟩
theorem d9_count_0 : decode c9_count 0 = .ok (.iload_n 1, 1) := by decide +kernel
theorem d9_count_1 : decode c9_count 1 = .ok (.tableswitch 90 0 5 #[39, 47, 55, 63, 71, 79], 39) := by decide +kernel
theorem d9_count_40 : decode c9_count 40 = .ok (.aload_n 0, 1) := by decide +kernel
theorem d9_count_41 : decode c9_count 41 = .ok (.getfield 19, 3) := by decide +kernel
theorem d9_count_44 : decode c9_count 44 = .ok (.getfield 184, 3) := by decide +kernel
theorem d9_count_47 : decode c9_count 47 = .ok (.ireturn, 1) := by decide +kernel
theorem d9_count_48 : decode c9_count 48 = .ok (.aload_n 0, 1) := by decide +kernel
theorem d9_count_49 : decode c9_count 49 = .ok (.getfield 19, 3) := by decide +kernel
theorem d9_count_52 : decode c9_count 52 = .ok (.getfield 187, 3) := by decide +kernel
theorem d9_count_55 : decode c9_count 55 = .ok (.ireturn, 1) := by decide +kernel
theorem d9_count_56 : decode c9_count 56 = .ok (.aload_n 0, 1) := by decide +kernel
theorem d9_count_57 : decode c9_count 57 = .ok (.getfield 10, 3) := by decide +kernel
theorem d9_count_60 : decode c9_count 60 = .ok (.getfield 70, 3) := by decide +kernel
theorem d9_count_63 : decode c9_count 63 = .ok (.ireturn, 1) := by decide +kernel
theorem d9_count_64 : decode c9_count 64 = .ok (.aload_n 0, 1) := by decide +kernel
theorem d9_count_65 : decode c9_count 65 = .ok (.getfield 10, 3) := by decide +kernel
theorem d9_count_68 : decode c9_count 68 = .ok (.invokevirtual 190, 3) := by decide +kernel
theorem d9_count_71 : decode c9_count 71 = .ok (.ireturn, 1) := by decide +kernel
theorem d9_count_72 : decode c9_count 72 = .ok (.aload_n 0, 1) := by decide +kernel
theorem d9_count_73 : decode c9_count 73 = .ok (.getfield 59, 3) := by decide +kernel
theorem d9_count_76 : decode c9_count 76 = .ok (.getfield 128, 3) := by decide +kernel
theorem d9_count_79 : decode c9_count 79 = .ok (.ireturn, 1) := by decide +kernel
theorem d9_count_80 : decode c9_count 80 = .ok (.aload_n 0, 1) := by decide +kernel
theorem d9_count_81 : decode c9_count 81 = .ok (.getfield 10, 3) := by decide +kernel
theorem d9_count_84 : decode c9_count 84 = .ok (.getfield 106, 3) := by decide +kernel
theorem d9_count_87 : decode c9_count 87 = .ok (.invokestatic 193, 3) := by decide +kernel
theorem d9_count_90 : decode c9_count 90 = .ok (.ireturn, 1) := by decide +kernel
theorem d9_count_91 : decode c9_count 91 = .ok (.iconst (-1), 1) := by decide +kernel
theorem d9_count_92 : decode c9_count 92 = .ok (.ireturn, 1) := by decide +kernel
def t9_count (l : Launch) (Po : ri_O) : List ri_S := [i_il 1 1,
  i_sw [(0, 2), (1, 6), (2, 10), (3, 14), (4, 18), (5, 22)] 27,
  i_al 3 0,
  i_get 4 9 1,
  i_get 5 1 0,
  i_ret Po 0 0,
  i_al 7 0,
  i_get 8 9 1,
  i_get 9 1 1,
  i_ret Po 0 0,
  i_al 11 0,
  i_get 12 9 0,
  i_get 13 0 0,
  i_ret Po 0 0,
  i_al 15 0,
  i_get 16 9 0,
  i_callV 17 1 0 (ri_Ev l y0_givenNotes w0_givenNotes r0_givenNotes 0 0) 0 0 0 0,
  i_ret Po 0 0,
  i_al 19 0,
  i_get 20 9 4,
  i_get 21 8 13,
  i_ret Po 0 0,
  i_al 23 0,
  i_get 24 9 0,
  i_get 25 0 1,
  i_call 26 1 (ri_Ev l y13_bitCount w13_bitCount r13_bitCount 0 0) 0 0 0 0,
  i_ret Po 0 0,
  i_con 28 (-1),
  i_ret Po 0 0]
set_option maxRecDepth 20000 in
set_option maxHeartbeats 4000000 in
theorem z9_count (l : Launch) (Po : ri_O) (p : Program) (e : Env) (s : State) (m : MethodId) (args : Array Value) (below : List Frame) (meth : Method) (c : Code) (D : va_G) (ka : Nat → ClassId) (sa : Nat → Nat) (base : Nat) (X : ri_X p s m args c c9_count 2 w9_count "ChoraleSearch" D ka sa base) (hret : meth.sig.returnType = (some .int)) (hlocks : meth.locks = false) (hname : meth.name = "count") : ri_clo (ri_W p l e r9_count s m args below meth c D ka sa base 2 (MQ below (ri_Qc D ka sa base Po) args s 0 0 (fun q => base ≤ q)) p9_count) (t9_count l Po) := by
  refine ri_clo_of ?_
  unfold t9_count
  exact ⟨s_iload_n X d9_count_0 rfl rfl,
    s_tsw X d9_count_1 rfl (by decide) (by decide) (by decide),
    s_aload_n X d9_count_40 rfl rfl,
    s_get X (ci := 9) (f := 1) rfl (fun w h => List.mem_cons_of_mem _ (uC_9 w h)) (by decide) (List.mem_cons_of_mem _ mgw_326) d9_count_41 rfl,
    s_getN X (ci := 1) (f := 0) rfl (fun w h => List.mem_cons_of_mem _ (uC_1 w h)) (by decide) (List.mem_of_getElem? (i := 18) rfl) d9_count_44 rfl,
    s_iret X hret hlocks d9_count_47,
    s_aload_n X d9_count_48 rfl rfl,
    s_get X (ci := 9) (f := 1) rfl (fun w h => List.mem_cons_of_mem _ (uC_9 w h)) (by decide) (List.mem_cons_of_mem _ mgw_326) d9_count_49 rfl,
    s_getN X (ci := 1) (f := 1) rfl (fun w h => List.mem_cons_of_mem _ (uC_1 w h)) (by decide) (List.mem_of_getElem? (i := 19) rfl) d9_count_52 rfl,
    s_iret X hret hlocks d9_count_55,
    s_aload_n X d9_count_56 rfl rfl,
    s_get X (ci := 9) (f := 0) rfl (fun w h => List.mem_cons_of_mem _ (uC_9 w h)) (by decide) (List.mem_cons_of_mem _ mgw_325) d9_count_57 rfl,
    s_getN X (ci := 0) (f := 0) rfl (fun w h => List.mem_cons_of_mem _ (uC_0 w h)) (by decide) (List.mem_of_getElem? (i := 3) rfl) d9_count_60 rfl,
    s_iret X hret hlocks d9_count_63,
    s_aload_n X d9_count_64 rfl rfl,
    s_get X (ci := 9) (f := 0) rfl (fun w h => List.mem_cons_of_mem _ (uC_9 w h)) (by decide) (List.mem_cons_of_mem _ mgw_325) d9_count_65 rfl,
    s_callVN ri_NW_ok X (na := 0) (ci := 0) rfl ⟨ri_cN X 0 mgw_796 (List.mem_cons_of_mem _ mgw_2) (List.mem_of_getElem? (i := 93) rfl) (by decide +kernel) rfl rfl ⟨by decide, by decide⟩, X.2.2.2.2.1 _ (List.mem_cons_of_mem _ mgw_795), X.2.2.2.2.1 _ (List.mem_cons_of_mem _ mgp_76)⟩ d9_count_68 rfl,
    s_iret X hret hlocks d9_count_71,
    s_aload_n X d9_count_72 rfl rfl,
    s_get X (ci := 9) (f := 4) rfl (fun w h => List.mem_cons_of_mem _ (uC_9 w h)) (by decide) (List.mem_cons_of_mem _ mgw_329) d9_count_73 rfl,
    s_getN X (ci := 8) (f := 13) rfl (fun w h => List.mem_cons_of_mem _ (uC_8 w h)) (by decide) (List.mem_of_getElem? (i := 41) rfl) d9_count_76 rfl,
    s_iret X hret hlocks d9_count_79,
    s_aload_n X d9_count_80 rfl rfl,
    s_get X (ci := 9) (f := 0) rfl (fun w h => List.mem_cons_of_mem _ (uC_9 w h)) (by decide) (List.mem_cons_of_mem _ mgw_325) d9_count_81 rfl,
    s_getN X (ci := 0) (f := 1) rfl (fun w h => List.mem_cons_of_mem _ (uC_0 w h)) (by decide) (List.mem_of_getElem? (i := 5) rfl) d9_count_84 rfl,
    s_callS ri_NW_ok X ⟨ri_cB X 1 mgw_799 (List.mem_cons_of_mem _ mgw_15) (List.mem_cons_of_mem _ mgw_797) (by decide +kernel) rfl rfl ⟨by decide, by decide⟩, X.2.2.2.2.1 _ (List.mem_cons_of_mem _ mgw_798)⟩ d9_count_87 rfl,
    s_iret X hret hlocks d9_count_90,
    s_iconst X d9_count_91 rfl rfl,
    s_iret X hret hlocks d9_count_92, trivial⟩
theorem d9_member_0 : decode c9_member 0 = .ok (.iload_n 1, 1) := by decide +kernel
theorem d9_member_1 : decode c9_member 1 = .ok (.invokestatic 103, 3) := by decide +kernel
theorem d9_member_4 : decode c9_member 4 = .ok (.ifCond .eq 12, 3) := by decide +kernel
theorem d9_member_7 : decode c9_member 7 = .ok (.iload_n 2, 1) := by decide +kernel
theorem d9_member_8 : decode c9_member 8 = .ok (.ifCond .lt 8, 3) := by decide +kernel
theorem d9_member_11 : decode c9_member 11 = .ok (.iload_n 2, 1) := by decide +kernel
theorem d9_member_12 : decode c9_member 12 = .ok (.iconst 4, 1) := by decide +kernel
theorem d9_member_13 : decode c9_member 13 = .ok (.if_icmp .lt 5, 3) := by decide +kernel
theorem d9_member_16 : decode c9_member 16 = .ok (.iconst (-1), 1) := by decide +kernel
theorem d9_member_17 : decode c9_member 17 = .ok (.ireturn, 1) := by decide +kernel
theorem d9_member_18 : decode c9_member 18 = .ok (.aload_n 0, 1) := by decide +kernel
theorem d9_member_19 : decode c9_member 19 = .ok (.getfield 19, 3) := by decide +kernel
theorem d9_member_22 : decode c9_member 22 = .ok (.iload_n 1, 1) := by decide +kernel
theorem d9_member_23 : decode c9_member 23 = .ok (.iload_n 2, 1) := by decide +kernel
theorem d9_member_24 : decode c9_member 24 = .ok (.invokevirtual 198, 3) := by decide +kernel
theorem d9_member_27 : decode c9_member 27 = .ok (.ireturn, 1) := by decide +kernel
def t9_member (l : Launch) (Po : ri_O) : List ri_S := [i_il 1 1,
  i_call 2 1 (ri_Ev l y9_isChord w9_isChord r9_isChord 0 0) 0 0 0 0,
  i_if 3 8 (fun x => x = 0),
  i_il 4 2,
  i_if 5 8 (fun x => x < 0),
  i_il 6 2,
  i_con 7 4,
  i_icmp 8 10 (fun x y => x < y),
  i_con 9 (-1),
  i_ret Po 0 0,
  i_al 11 0,
  i_get 12 9 1,
  i_il 13 1,
  i_il 14 2,
  i_callV 15 3 1 (ri_Ev l y1_memberClass w1_memberClass r1_memberClass 0 0) 0 0 0 0,
  i_ret Po 0 0]
set_option maxRecDepth 20000 in
set_option maxHeartbeats 4000000 in
theorem z9_member (l : Launch) (Po : ri_O) (p : Program) (e : Env) (s : State) (m : MethodId) (args : Array Value) (below : List Frame) (meth : Method) (c : Code) (D : va_G) (ka : Nat → ClassId) (sa : Nat → Nat) (base : Nat) (X : ri_X p s m args c c9_member 3 w9_member "ChoraleSearch" D ka sa base) (hret : meth.sig.returnType = (some .int)) (hlocks : meth.locks = false) (hname : meth.name = "member") : ri_clo (ri_W p l e r9_member s m args below meth c D ka sa base 3 (MQ below (ri_Qc D ka sa base Po) args s 0 0 (fun q => base ≤ q)) p9_member) (t9_member l Po) := by
  refine ri_clo_of ?_
  unfold t9_member
  exact ⟨s_iload_n X d9_member_0 rfl rfl,
    s_callS ri_NW_ok X ⟨ri_cB X 1 mgw_403 (List.mem_cons_of_mem _ mgw_1) (List.mem_cons_of_mem _ mgw_401) (by decide +kernel) rfl rfl ⟨by decide, by decide⟩, X.2.2.2.2.1 _ (List.mem_cons_of_mem _ mgw_402)⟩ d9_member_1 rfl,
    s_if_eq X d9_member_4 rfl rfl,
    s_iload_n X d9_member_7 rfl rfl,
    s_if_lt X d9_member_8 rfl rfl,
    s_iload_n X d9_member_11 rfl rfl,
    s_iconst X d9_member_12 rfl rfl,
    s_icmp_lt X d9_member_13 rfl rfl,
    s_iconst X d9_member_16 rfl rfl,
    s_iret X hret hlocks d9_member_17,
    s_aload_n X d9_member_18 rfl rfl,
    s_get X (ci := 9) (f := 1) rfl (fun w h => List.mem_cons_of_mem _ (uC_9 w h)) (by decide) (List.mem_cons_of_mem _ mgw_326) d9_member_19 rfl,
    s_iload_n X d9_member_22 rfl rfl,
    s_iload_n X d9_member_23 rfl rfl,
    s_callVN ri_NW_ok X (na := 2) (ci := 1) rfl ⟨ri_cN X 2 mgw_491 (List.mem_cons_of_mem _ mgw_3) (List.mem_of_getElem? (i := 94) rfl) (by decide +kernel) rfl rfl ⟨by decide, by decide⟩, X.2.2.2.2.1 _ (List.mem_cons_of_mem _ mgw_490), X.2.2.2.2.1 _ (List.mem_cons_of_mem _ mgp_22)⟩ d9_member_24 rfl,
    s_iret X hret hlocks d9_member_27, trivial⟩
