/-! what the methods' lists need beside the instructions: the words' goodness, calls' conditions, longs on the stack -/
def ri_cl2 (J : ri_K) : Nat → List ri_S → Prop
  | _, [] => True
  | i, f :: r => ri_snd J i f ∧ ri_cl2 J (i + 1) r
theorem ri_cl2_at {J : ri_K} : ∀ (tab : List ri_S) (o i : Nat) (f : ri_S), ri_cl2 J o tab → tab[i]? = some f → ri_snd J (o + i) f
  | [], _, _, _, _, h => by simp at h
  | g :: r, o, i, f, hc, h => by
    cases i with
    | zero =>
      rw [List.getElem?_cons_zero] at h
      cases h
      exact hc.1
    | succ i =>
      rw [List.getElem?_cons_succ] at h
      rw [show o + (i + 1) = o + 1 + i by omega]
      exact ri_cl2_at r (o + 1) i f hc.2 h
theorem ri_clo_of {J : ri_K} {tab : List ri_S} (h : ri_cl2 J 0 tab) : ri_clo J tab := fun i f hi => by
  have := ri_cl2_at tab 0 i f h hi
  rw [Nat.zero_add] at this
  exact this
theorem ri_NW_ok : ∀ w ∈ ri_NW, ri_isN w = true := by
  have h : ri_NW.all ri_isN = true := by decide +kernel
  exact List.all_eq_true.mp h
theorem ri_gT_ok : ∀ w ∈ ri_gT, goodWord w = true := by
  have h : ri_gT.all goodWord = true := by decide +kernel
  exact List.all_eq_true.mp h
def ri_isZ (v : Value) : Bool := match v with
  | .int x => x == 0 || x == 1
  | _ => false
theorem ri_ok_int {sa : Nat → Nat} {base : Nat} : ∀ v, ri_isI v = true → narrow .int (ri_v sa base v) = ri_v sa base v ∧ fits .int (ri_v sa base v) = true := by
  intro v h
  cases v <;> first | exact ⟨rfl, rfl⟩ | cases h
theorem ri_ok_bool {sa : Nat → Nat} {base : Nat} : ∀ v, ri_isZ v = true → narrow .boolean (ri_v sa base v) = ri_v sa base v ∧ fits .boolean (ri_v sa base v) = true := by
  intro v h
  cases v with
  | int x =>
    have h2 : x = 0 ∨ x = 1 := by
      simp only [ri_isZ, Bool.or_eq_true, beq_iff_eq] at h
      exact h
    rcases h2 with rfl | rfl <;> exact ⟨rfl, rfl⟩
  | _ => cases h
theorem ri_ok_ref {sa : Nat → Nat} {base : Nat} {C : String} : ∀ v, ri_isR v = true → narrow (.object C) (ri_v sa base v) = ri_v sa base v ∧ fits (.object C) (ri_v sa base v) = true := by
  intro v h
  cases v <;> first | exact ⟨rfl, rfl⟩ | cases h
theorem ri_ok_arr {sa : Nat → Nat} {base : Nat} {t : FieldType} : ∀ v, ri_isR v = true → narrow (.array t) (ri_v sa base v) = ri_v sa base v ∧ fits (.array t) (ri_v sa base v) = true := by
  intro v h
  cases v <;> first | exact ⟨rfl, rfl⟩ | cases h
theorem ri_kt_all : ∀ t < ri_kt.length, ∃ ty, ri_kt[t]? = some ty := fun t h => ⟨_, List.getElem?_eq_getElem h⟩
theorem ri_lsw_ck {pf : Nat → Nat} {pi : Nat} {ps : List (Int × Int)} {cs : List (Int32 × Nat)} (h : (ps.zip cs).all (fun z => decide (z.2.1.toInt = z.1.1) && decide ((pi : Int) + z.1.2 = (pf z.2.2 : Int))) = true) : ∀ (j : Nat) (a : Int × Int) (q : Int32 × Nat), ps[j]? = some a → cs[j]? = some q → q.1.toInt = a.1 ∧ (pi : Int) + a.2 = (pf q.2 : Int) := by
  intro j a q ha hq
  have hz : (ps.zip cs)[j]? = some (a, q) := by
    rw [List.getElem?_zip_eq_some]
    exact ⟨ha, hq⟩
  have := List.all_eq_true.mp h _ (List.mem_of_getElem? hz)
  simp only [Bool.and_eq_true, decide_eq_true_eq] at this
  exact this
def i_lcon (n : Nat) (v : Int64) : ri_S := fun k U V L st h => k n U V L (.long v :: st) h
def i_i2l (n : Nat) : ri_S := fun k U V L st h => match st with
  | .int x :: r => k n U V L (.long x.toInt64 :: r) h
  | _ => False
section RIG
variable {p : Program} {l : Launch} {e : Env} {R : Room} {s : State} {m : MethodId} {args : Array Value} {below : List Frame} {meth : Method} {c : Code} {Q : State → Prop} {cc : ByteArray} {nL : Nat} {own : String} {D : va_G} {ka : Nat → ClassId} {sa : Nat → Nat} {base : Nat} {pf : Nat → Nat} {i n : Nat} {Ts : List Cond}
theorem s_ldcw (X : ri_X p s m args c cc nL Ts own D ka sa base) {ix : Nat} {v : Int32} (hd : decode cc (pf i) = .ok (.ldc_w ix, 3)) (hv : Cond.constant own ix v ∈ Ts) (hn : pf n = pf i + 3) : ri_snd (ri_W p l e R s m args below meth c D ka sa base nL Q pf) i (i_con n v) := by
  intro k hk U V L st h hf H locs ls hH hS hl
  have hw := hk _ _ _ _ _ _ hf H locs ls hH hS hl
  rw [hn] at hw
  exact lv_ldcw X.1 X.2.1 X.2.2.2.1 (X.2.2.2.2.1 _ hv) hd hw
theorem s_lconst (X : ri_X p s m args c cc nL Ts own D ka sa base) {z : Fin 2} {v : Int64} (hd : decode cc (pf i) = .ok (.lconst z, 1)) (hv : Int64.ofNat z = v) (hn : pf n = pf i + 1) : ri_snd (ri_W p l e R s m args below meth c D ka sa base nL Q pf) i (i_lcon n v) := by
  intro k hk U V L st h hf H locs ls hH hS hl
  have hw := hk _ _ _ _ _ _ hf H locs ls hH hS hl
  rw [hn] at hw
  exact lv_lconst X.1 X.2.1 hd hv hw
theorem s_ldc2 (X : ri_X p s m args c cc nL Ts own D ka sa base) {ix : Nat} {v : Int64} (hd : decode cc (pf i) = .ok (.ldc2_w ix, 3)) (hv : Cond.constantLong own ix v ∈ Ts) (hn : pf n = pf i + 3) : ri_snd (ri_W p l e R s m args below meth c D ka sa base nL Q pf) i (i_lcon n v) := by
  intro k hk U V L st h hf H locs ls hH hS hl
  have hw := hk _ _ _ _ _ _ hf H locs ls hH hS hl
  rw [hn] at hw
  exact lv_ldc2 X.1 X.2.1 X.2.2.2.1 (X.2.2.2.2.1 _ hv) hd hw
theorem s_i2l (X : ri_X p s m args c cc nL Ts own D ka sa base) (hd : decode cc (pf i) = .ok (.i2l, 1)) (hn : pf n = pf i + 1) : ri_snd (ri_W p l e R s m args below meth c D ka sa base nL Q pf) i (i_i2l n) := by
  intro k hk U V L st h hf
  unfold i_i2l at hf
  split at hf
  · intro H locs ls hH hS hl
    have hw := hk _ _ _ _ _ _ hf H locs ls hH hS hl
    rw [hn] at hw
    exact lv_i2l X.1 X.2.1 hd rfl hw
  · exact hf.elim
theorem ri_good {y y0 : MethodName} {bytes cc0 : ByteArray} {maxL nL0 : Nat} {ret r0 : Option FieldType} (hcode : Cond.code y bytes maxL ret ∈ ri_gT) : GoodIn (Cond.code y0 cc0 nL0 r0 :: ri_gT) (Cond.code y bytes maxL ret :: ri_gT) := by
  intro w hw
  have h : w ∈ ri_gT := (List.mem_cons.mp hw).elim (fun z => z ▸ hcode) id
  exact ⟨List.mem_cons_of_mem _ h, good_of_word (ri_gT_ok w h)⟩
theorem ri_cB {y0 y : MethodName} {r0 ret : Option FieldType} {bytes : ByteArray} {maxL mc ms ix : Nat} {rm rm2 : Room} (X : ri_X p s m args c cc nL (Cond.code y0 cc nL r0 :: ri_gT) own D ka sa base) (na : Nat) (hcode : Cond.code y bytes maxL ret ∈ ri_gT) (hini : Cond.initialized y.cls ∈ Cond.code y0 cc nL r0 :: ri_gT) (hlink : Cond.methodLink own ix y ∈ Cond.code y0 cc nL r0 :: ri_gT) (hd : y.cls ≠ "java/lang/invoke/MethodHandle" ∧ y.cls ≠ "java/lang/invoke/VarHandle" ∧ (parseMethodDescriptor y.desc).map (fun d => d.parameters.length) = some na) (hrc : rm2.cells = mc) (hrs : rm2.slots = ms) (hR : rm2.frames + 1 ≤ rm.frames ∧ 8 + (maxL + 11) + rm2.locals ≤ rm.locals) : CallB rm s args own ix y bytes maxL ret (Cond.code y bytes maxL ret :: ri_gT) rm2 mc ms na :=
  callB_of na X.2.2.2.2.1 (ri_good hcode) rfl hrc hrs (X.2.2.2.2.1 _ hini) (X.2.2.2.2.1 _ hlink) hd hR
theorem ri_cN {y0 y : MethodName} {r0 ret : Option FieldType} {bytes : ByteArray} {maxL mc ms ix : Nat} {rm rm2 : Room} {host : String} (X : ri_X p s m args c cc nL (Cond.code y0 cc nL r0 :: ri_gT) own D ka sa base) (na : Nat) (hcode : Cond.code y bytes maxL ret ∈ ri_gT) (hini : Cond.initialized y.cls ∈ Cond.code y0 cc nL r0 :: ri_gT) (hlink : Cond.methodLinkNest own ix y host ∈ ri_NW) (hd : y.cls ≠ "java/lang/invoke/MethodHandle" ∧ y.cls ≠ "java/lang/invoke/VarHandle" ∧ (parseMethodDescriptor y.desc).map (fun d => d.parameters.length) = some na) (hrc : rm2.cells = mc) (hrs : rm2.slots = ms) (hR : rm2.frames + 1 ≤ rm.frames ∧ 8 + (maxL + 11) + rm2.locals ≤ rm.locals) : va_CN rm s args own ix y host bytes maxL ret (Cond.code y bytes maxL ret :: ri_gT) rm2 mc ms na :=
  va_cnB na X.2.2.2.2.1 (ri_good hcode) rfl hrc hrs (X.2.2.2.2.2.2.1 _ hlink) (X.2.2.2.2.1 _ hini) hd hR
end RIG
theorem uC_0 : ∀ w ∈ u_ws RC_0 TC_0 9, w ∈ ri_gT := by
  have e : u_ws RC_0 TC_0 9 = [gw_59, gw_61, gw_63, gw_65, gw_67, gw_69, gw_71, gw_73, gw_75] := rfl
  rw [e]
  exact List.forall_mem_cons.mpr ⟨mgw_59, List.forall_mem_cons.mpr ⟨mgw_61, List.forall_mem_cons.mpr ⟨mgw_63, List.forall_mem_cons.mpr ⟨mgw_65, List.forall_mem_cons.mpr ⟨mgw_67, List.forall_mem_cons.mpr ⟨mgw_69, List.forall_mem_cons.mpr ⟨mgw_71, List.forall_mem_cons.mpr ⟨mgw_73, List.forall_mem_cons.mpr ⟨mgw_75, List.forall_mem_nil _⟩⟩⟩⟩⟩⟩⟩⟩⟩
theorem fC_0 : ∀ j, j < 9 → defaultValue (tC_0 j) = vp_V [.int 0, .int 0, .null, .null, .null, .null, .null, .null, .null] j := by decide
theorem uC_1 : ∀ w ∈ u_ws RC_1 TC_1 7, w ∈ ri_gT := by
  have e : u_ws RC_1 TC_1 7 = [gw_126, gw_128, gw_130, gw_132, gw_134, gw_136, gw_138] := rfl
  rw [e]
  exact List.forall_mem_cons.mpr ⟨mgw_126, List.forall_mem_cons.mpr ⟨mgw_128, List.forall_mem_cons.mpr ⟨mgw_130, List.forall_mem_cons.mpr ⟨mgw_132, List.forall_mem_cons.mpr ⟨mgw_134, List.forall_mem_cons.mpr ⟨mgw_136, List.forall_mem_cons.mpr ⟨mgw_138, List.forall_mem_nil _⟩⟩⟩⟩⟩⟩⟩
theorem fC_1 : ∀ j, j < 7 → defaultValue (tC_1 j) = vp_V [.int 0, .int 0, .int 0, .null, .null, .null, .null] j := by decide
theorem uC_2 : ∀ w ∈ u_ws RC_2 TC_2 5, w ∈ ri_gT := by
  have e : u_ws RC_2 TC_2 5 = [gw_152, gw_154, gw_156, gw_158, gw_160] := rfl
  rw [e]
  exact List.forall_mem_cons.mpr ⟨mgw_152, List.forall_mem_cons.mpr ⟨mgw_154, List.forall_mem_cons.mpr ⟨mgw_156, List.forall_mem_cons.mpr ⟨mgw_158, List.forall_mem_cons.mpr ⟨mgw_160, List.forall_mem_nil _⟩⟩⟩⟩⟩
theorem fC_2 : ∀ j, j < 5 → defaultValue (tC_2 j) = vp_V [.null, .null, .null, .null, .null] j := by decide
theorem uC_3 : ∀ w ∈ u_ws RC_3 TC_3 5, w ∈ ri_gT := by
  have e : u_ws RC_3 TC_3 5 = [gw_174, gw_176, gw_178, gw_180, gw_182] := rfl
  rw [e]
  exact List.forall_mem_cons.mpr ⟨mgw_174, List.forall_mem_cons.mpr ⟨mgw_176, List.forall_mem_cons.mpr ⟨mgw_178, List.forall_mem_cons.mpr ⟨mgw_180, List.forall_mem_cons.mpr ⟨mgw_182, List.forall_mem_nil _⟩⟩⟩⟩⟩
theorem fC_3 : ∀ j, j < 5 → defaultValue (tC_3 j) = vp_V [.null, .int 0, .int 0, .null, .null] j := by decide
theorem uC_4 : ∀ w ∈ u_ws RC_4 TC_4 4, w ∈ ri_gT := by
  have e : u_ws RC_4 TC_4 4 = [gw_222, gw_224, gw_226, gw_228] := rfl
  rw [e]
  exact List.forall_mem_cons.mpr ⟨mgw_222, List.forall_mem_cons.mpr ⟨mgw_224, List.forall_mem_cons.mpr ⟨mgw_226, List.forall_mem_cons.mpr ⟨mgw_228, List.forall_mem_nil _⟩⟩⟩⟩
theorem fC_4 : ∀ j, j < 4 → defaultValue (tC_4 j) = vp_V [.null, .null, .null, .int 0] j := by decide
theorem uC_5 : ∀ w ∈ u_ws RC_5 TC_5 3, w ∈ ri_gT := by
  have e : u_ws RC_5 TC_5 3 = [gw_208, gw_210, gw_212] := rfl
  rw [e]
  exact List.forall_mem_cons.mpr ⟨mgw_208, List.forall_mem_cons.mpr ⟨mgw_210, List.forall_mem_cons.mpr ⟨mgw_212, List.forall_mem_nil _⟩⟩⟩
theorem fC_5 : ∀ j, j < 3 → defaultValue (tC_5 j) = vp_V [.int 0, .null, .null] j := by decide
theorem uC_6 : ∀ w ∈ u_ws RC_6 TC_6 5, w ∈ ri_gT := by
  have e : u_ws RC_6 TC_6 5 = [gw_244, gw_246, gw_248, gw_250, gw_252] := rfl
  rw [e]
  exact List.forall_mem_cons.mpr ⟨mgw_244, List.forall_mem_cons.mpr ⟨mgw_246, List.forall_mem_cons.mpr ⟨mgw_248, List.forall_mem_cons.mpr ⟨mgw_250, List.forall_mem_cons.mpr ⟨mgw_252, List.forall_mem_nil _⟩⟩⟩⟩⟩
theorem fC_6 : ∀ j, j < 5 → defaultValue (tC_6 j) = vp_V [.null, .null, .null, .null, .null] j := by decide
theorem uC_7 : ∀ w ∈ u_ws RC_7 TC_7 2, w ∈ ri_gT := by
  have e : u_ws RC_7 TC_7 2 = [gw_265, gw_267] := rfl
  rw [e]
  exact List.forall_mem_cons.mpr ⟨mgw_265, List.forall_mem_cons.mpr ⟨mgw_267, List.forall_mem_nil _⟩⟩
theorem fC_7 : ∀ j, j < 2 → defaultValue (tC_7 j) = vp_V [.null, .null] j := by decide
theorem uC_8 : ∀ w ∈ u_ws RC_8 TC_8 15, w ∈ ri_gT := by
  have e : u_ws RC_8 TC_8 15 = [gw_294, gw_296, gw_298, gw_300, gw_302, gw_304, gw_306, gw_308, gw_310, gw_312, gw_314, gw_316, gw_318, gw_320, gw_322] := rfl
  rw [e]
  exact List.forall_mem_cons.mpr ⟨mgw_294, List.forall_mem_cons.mpr ⟨mgw_296, List.forall_mem_cons.mpr ⟨mgw_298, List.forall_mem_cons.mpr ⟨mgw_300, List.forall_mem_cons.mpr ⟨mgw_302, List.forall_mem_cons.mpr ⟨mgw_304, List.forall_mem_cons.mpr ⟨mgw_306, List.forall_mem_cons.mpr ⟨mgw_308, List.forall_mem_cons.mpr ⟨mgw_310, List.forall_mem_cons.mpr ⟨mgw_312, List.forall_mem_cons.mpr ⟨mgw_314, List.forall_mem_cons.mpr ⟨mgw_316, List.forall_mem_cons.mpr ⟨mgw_318, List.forall_mem_cons.mpr ⟨mgw_320, List.forall_mem_cons.mpr ⟨mgw_322, List.forall_mem_nil _⟩⟩⟩⟩⟩⟩⟩⟩⟩⟩⟩⟩⟩⟩⟩
theorem fC_8 : ∀ j, j < 15 → defaultValue (tC_8 j) = vp_V [.null, .null, .null, .null, .null, .null, .null, .null, .int 0, .null, .null, .null, .null, .int 0, .int 0] j := by decide
theorem uC_9 : ∀ w ∈ u_ws RC_9 TC_9 5, w ∈ ri_gT := by
  have e : u_ws RC_9 TC_9 5 = [gw_330, gw_332, gw_334, gw_336, gw_338] := rfl
  rw [e]
  exact List.forall_mem_cons.mpr ⟨mgw_330, List.forall_mem_cons.mpr ⟨mgw_332, List.forall_mem_cons.mpr ⟨mgw_334, List.forall_mem_cons.mpr ⟨mgw_336, List.forall_mem_cons.mpr ⟨mgw_338, List.forall_mem_nil _⟩⟩⟩⟩⟩
theorem fC_9 : ∀ j, j < 5 → defaultValue (tC_9 j) = vp_V [.null, .null, .null, .null, .null] j := by decide
theorem uC_10 : ∀ w ∈ u_ws RC_10 TC_10 36, w ∈ ri_gT := by
  have e : u_ws RC_10 TC_10 36 = [gw_850, gw_852, gw_854, gw_856, gw_858, gw_860, gw_862, gw_864, gw_866, gw_868, gw_870, gw_872, gw_874, gw_876, gw_878, gw_880, gw_882, gw_884, gw_886, gw_888, gw_890, gw_892, gw_894, gw_896, gw_898, gw_900, gw_902, gw_904, gw_906, gw_908, gw_910, gw_912, gw_914, gw_916, gw_918, gw_920] := rfl
  rw [e]
  exact List.forall_mem_cons.mpr ⟨mgw_850, List.forall_mem_cons.mpr ⟨mgw_852, List.forall_mem_cons.mpr ⟨mgw_854, List.forall_mem_cons.mpr ⟨mgw_856, List.forall_mem_cons.mpr ⟨mgw_858, List.forall_mem_cons.mpr ⟨mgw_860, List.forall_mem_cons.mpr ⟨mgw_862, List.forall_mem_cons.mpr ⟨mgw_864, List.forall_mem_cons.mpr ⟨mgw_866, List.forall_mem_cons.mpr ⟨mgw_868, List.forall_mem_cons.mpr ⟨mgw_870, List.forall_mem_cons.mpr ⟨mgw_872, List.forall_mem_cons.mpr ⟨mgw_874, List.forall_mem_cons.mpr ⟨mgw_876, List.forall_mem_cons.mpr ⟨mgw_878, List.forall_mem_cons.mpr ⟨mgw_880, List.forall_mem_cons.mpr ⟨mgw_882, List.forall_mem_cons.mpr ⟨mgw_884, List.forall_mem_cons.mpr ⟨mgw_886, List.forall_mem_cons.mpr ⟨mgw_888, List.forall_mem_cons.mpr ⟨mgw_890, List.forall_mem_cons.mpr ⟨mgw_892, List.forall_mem_cons.mpr ⟨mgw_894, List.forall_mem_cons.mpr ⟨mgw_896, List.forall_mem_cons.mpr ⟨mgw_898, List.forall_mem_cons.mpr ⟨mgw_900, List.forall_mem_cons.mpr ⟨mgw_902, List.forall_mem_cons.mpr ⟨mgw_904, List.forall_mem_cons.mpr ⟨mgw_906, List.forall_mem_cons.mpr ⟨mgw_908, List.forall_mem_cons.mpr ⟨mgw_910, List.forall_mem_cons.mpr ⟨mgw_912, List.forall_mem_cons.mpr ⟨mgw_914, List.forall_mem_cons.mpr ⟨mgw_916, List.forall_mem_cons.mpr ⟨mgw_918, List.forall_mem_cons.mpr ⟨mgw_920, List.forall_mem_nil _⟩⟩⟩⟩⟩⟩⟩⟩⟩⟩⟩⟩⟩⟩⟩⟩⟩⟩⟩⟩⟩⟩⟩⟩⟩⟩⟩⟩⟩⟩⟩⟩⟩⟩⟩⟩
theorem fC_10 : ∀ j, j < 36 → defaultValue (tC_10 j) = vp_V [.int 0, .null, .null, .null, .null, .int 0, .int 0, .int 0, .null, .null, .null, .null, .null, .null, .null, .null, .null, .null, .null, .null, .null, .null, .null, .null, .null, .null, .int 0, .null, .null, .null, .int 0, .null, .int 0, .null, .null, .int 0] j := by decide
