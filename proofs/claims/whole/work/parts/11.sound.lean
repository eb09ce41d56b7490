/-! The abstract machine's instructions hold over the machine: a row each. -/
def ri_ad (sa : Nat → Nat) (base k : Nat) : Nat := bif Nat.ble 16 k then base + (k - 16) else sa k
def ri_v (sa : Nat → Nat) (base : Nat) (v : Value) : Value := match v with
  | .ref k => .ref (ri_ad sa base k)
  | v => v
theorem ri_v_cat (sa : Nat → Nat) (base : Nat) (v : Value) : (ri_v sa base v).category = v.category := by cases v <;> rfl
def ri_c (sa : Nat → Nat) (base : Nat) (ka : Nat → ClassId) (e : ri_C) : va_E := match e with
  | .inl (t, n, .inl f) => .inl (ka t, n, .inl f)
  | .inl (t, n, .inr g) => .inl (ka t, n, .inr (.inr (.inr (.inr (fun i => (g i).map (ri_ad sa base))))))
  | .inr (ci, fs) => .inr (ci, fs.map (ri_v sa base))
def ri_w (sa : Nat → Nat) (base : Nat) (ka : Nat → ClassId) (h : List ri_C) : va_W := h.mapIdx (fun j e => (base + j, ri_c sa base ka e))
theorem ri_w_get {sa : Nat → Nat} {base : Nat} {ka : Nat → ClassId} {h : List ri_C} {j : Nat} {e : ri_C} (hj : h[j]? = some e) : (ri_w sa base ka h)[j]? = some (base + j, ri_c sa base ka e) := by
  simp [ri_w, List.getElem?_mapIdx, hj]
theorem ri_w_at {sa : Nat → Nat} {base : Nat} {ka : Nat → ClassId} {h : List ri_C} {j : Nat} {q : Nat × va_E} (hj : (ri_w sa base ka h)[j]? = some q) : q.1 = base + j := by
  simp only [ri_w, List.getElem?_mapIdx, Option.map_eq_some_iff] at hj
  obtain ⟨e, -, rfl⟩ := hj
  rfl
theorem ri_w_D {sa : Nat → Nat} {base : Nat} {ka : Nat → ClassId} {h : List ri_C} : va_D (fun q => base ≤ q) (ri_w sa base ka h) := by
  refine ⟨fun i j x y hi hj hxy => ?_, fun k q hk => ?_⟩
  · have a := ri_w_at hi
    have b := ri_w_at hj
    omega
  · have a := ri_w_at hk
    show base ≤ q.1
    omega
theorem ri_w_set {sa : Nat → Nat} {base : Nat} {ka : Nat → ClassId} {h : List ri_C} {j : Nat} {e : ri_C} : (ri_w sa base ka h).set j (base + j, ri_c sa base ka e) = ri_w sa base ka (h.set j e) := by
  apply List.ext_getElem?
  intro i
  simp only [ri_w, List.getElem?_set, List.getElem?_mapIdx, List.length_mapIdx]
  by_cases hij : j = i
  · subst hij
    by_cases hl : j < h.length <;> simp [hl]
  · simp [hij]
theorem ri_w_app {sa : Nat → Nat} {base : Nat} {ka : Nat → ClassId} {h : List ri_C} {e : ri_C} : ri_w sa base ka (h ++ [e]) = ri_w sa base ka h ++ [(base + h.length, ri_c sa base ka e)] := by
  simp [ri_w, List.mapIdx_append]
def ri_tys (ka : Nat → ClassId) : List (ClassId × FieldType) := ri_kt.mapIdx (fun i t => (ka i, t))
theorem ri_tys_get {ka : Nat → ClassId} {k : Nat} {t : FieldType} (h : ri_kt[k]? = some t) : (ri_tys ka)[k]? = some (ka k, t) := by simp [ri_tys, List.getElem?_mapIdx, h]
def ri_A2 (U : State) : Prop := (Cond.arrayOver (.array .int)).before #[] U = true
theorem ri_A2.moved {u U : State} (hvm : u.vm.Alike U.vm) (h : ri_A2 u) : ri_A2 U := by
  unfold ri_A2 Cond.before Cond.holds at h ⊢
  simp only [Cond.value, beq_iff_eq] at h ⊢
  cases hc : u.vm.findClass (FieldType.array .int).toString with
  | none => simp [hc] at h
  | some comp =>
    simp only [hc, Option.bind_some, Option.bind_eq_some_iff, Option.map_eq_some_iff] at h
    obtain ⟨c, hi, k, hk, hb⟩ := h
    obtain ⟨k', hk', he⟩ := hvm.2.2 _ _ hk
    have f1 : U.vm.findClass (FieldType.array .int).toString = some comp := by rw [hvm.findClass]; exact hc
    have a1 := va_idx_bare U.vm comp
    have a2 := va_idx_bare u.vm comp
    have e : U.vm.bare = u.vm.bare := by first | exact hvm.bare_eq | exact hvm.bare_eq.symm
    rw [e] at a1
    have hi' := a1.symm.trans (a2.trans hi)
    rw [f1, Option.bind_some, Option.bind_eq_some_iff]
    refine ⟨c, hi', ?_⟩
    rw [hk', Option.map_some, he]
    simp only [hvm.findClass]
    exact congrArg some hb
/-- what holds of the tables and of the statics at every state of the run -/
def ri_env (D : va_G) (ka : Nat → ClassId) (sa : Nat → Nat) (base : Nat) (U : State) : Prop :=
  va_K D ri_cl (ri_tys ka) U ∧ (∀ w ∈ ri_NW, va_Nw w U) ∧ ((∀ C ∈ ri_AO, va_AO C U) ∧ ri_A2 U) ∧
  (∀ (j : Nat) (t : String × String × String × Nat × (Nat → Int32)), ri_ST[j]? = some t → va_Z t.1 t.2.1 t.2.2.1 (.ref (sa j)) (fun q => base ≤ q) U U.heap ∧ va_T .int (sa j) t.2.2.2.1 (fun i => .int (t.2.2.2.2 i)) (fun q => base ≤ q) U U.heap) ∧ base ≤ U.heap.size
def ri_l (sa : Nat → Nat) (base : Nat) (ls : Array Slot) (nL : Nat) (L : ri_L) : Prop := ls.size = nL ∧ lv_wf ls ∧ ∀ (i : Nat) (v : Value), L[i]? = some (some v) → ls[i]? = some (.val (ri_v sa base v)) ∧ v.category = 1
def ri_prs (sa : Nat → Nat) (base : Nat) (L : ri_L) : List (Nat × Value) := (List.range L.length).filterMap (fun i => match L[i]? with
  | some (some v) => some (i, ri_v sa base v)
  | _ => none)
theorem ri_prs_in {sa : Nat → Nat} {base : Nat} {L : ri_L} {i : Nat} {v : Value} (h : L[i]? = some (some v)) : (i, ri_v sa base v) ∈ ri_prs sa base L := by
  refine List.mem_filterMap.mpr ⟨i, List.mem_range.mpr (List.getElem?_eq_some_iff.mp h).1, ?_⟩
  rw [h]
theorem ri_l_has {sa : Nat → Nat} {base : Nat} {ls : Array Slot} {nL : Nat} {L : ri_L} (h : ri_l sa base ls nL L) : lv_has ls nL (ri_prs sa base L) := by
  refine ⟨h.1, h.2.1, fun q hq => ?_⟩
  obtain ⟨i, -, e⟩ := List.mem_filterMap.mp hq
  split at e
  · rename_i v hv
    cases e
    exact (h.2.2 i v hv).1
  · cases e
theorem ri_l_put {sa : Nat → Nat} {base : Nat} {ls ls' : Array Slot} {nL i : Nat} {L : ri_L} {x : Value} (hl : ri_l sa base ls nL L) (hc : x.category = 1) (h' : lv_has ls' nL ((i, ri_v sa base x) :: (ri_prs sa base L).filter (fun q => !(q.1 == i) && !(q.1 + 1 == i && q.2.category == 2)))) : ri_l sa base ls' nL (L.set i (some x)) := by
  refine ⟨h'.1, h'.2.1, fun j v hj => ?_⟩
  by_cases e : j = i
  · subst e
    rw [List.getElem?_set] at hj
    simp only [if_true] at hj
    by_cases hlt : j < L.length
    · rw [if_pos hlt] at hj
      cases hj
      exact ⟨h'.2.2 (j, ri_v sa base x) List.mem_cons_self, hc⟩
    · rw [if_neg hlt] at hj
      cases hj
  · rw [List.getElem?_set_ne (Ne.symm e)] at hj
    have h2 := hl.2.2 j v hj
    refine ⟨h'.2.2 (j, ri_v sa base v) (List.mem_cons_of_mem _ (List.mem_filter.mpr ⟨ri_prs_in hj, ?_⟩)), h2.2⟩
    simp [e, ri_v_cat, h2.2]
abbrev ri_H (D : va_G) (ka : Nat → ClassId) (sa : Nat → Nat) (base : Nat) (h : List ri_C) (H : Heap) : Prop := va_P D ri_cl (ri_w sa base ka h) H ∧ H.size = base + h.length
def ri_W (p : Program) (l : Launch) (e : Env) (R : Room) (s : State) (m : MethodId) (args : Array Value) (below : List Frame) (meth : Method) (c : Code) (D : va_G) (ka : Nat → ClassId) (sa : Nat → Nat) (base nL : Nat) (Q : State → Prop) (pf : Nat → Nat) : ri_K := fun i U V L st h =>
  ∀ (H : Heap) (locs : List Loc) (ls : Array Slot), ri_H D ka sa base h H → va_S (fun q => base ≤ q) s.heap H locs → ri_l sa base ls nL L → W p l e R s m args below meth c H locs U V Q (F0 m (pf i) ls (st.map (ri_v sa base)))
def ri_X (p : Program) (s : State) (m : MethodId) (args : Array Value) (c : Code) (cc : ByteArray) (nL : Nat) (Ts : List Cond) (own : String) (D : va_G) (ka : Nat → ClassId) (sa : Nat → Nat) (base : Nat) : Prop :=
  p.tables.exec = Jvm.exec ∧ c.code = cc ∧ c.maxLocals = nL ∧ s.vm.findClass own = some m.cls ∧ (∀ w ∈ Ts, w.before args s = true) ∧ ri_env D ka sa base s
theorem ri_cat1_ok {v : Value} (h : ri_cat1 v = true) : v.category = 1 := by cases v <;> first | rfl | cases h
section RIS
variable {p : Program} {l : Launch} {e : Env} {R : Room} {s : State} {m : MethodId} {args : Array Value} {below : List Frame} {meth : Method} {c : Code} {Q : State → Prop} {cc : ByteArray} {nL : Nat} {Ts : List Cond} {own : String} {D : va_G} {ka : Nat → ClassId} {sa : Nat → Nat} {base : Nat} {pf : Nat → Nat} {i n t : Nat}

theorem s_iconst (X : ri_X p s m args c cc nL Ts own D ka sa base) {z : Int} {v : Int32} (hd : decode cc (pf i) = .ok (.iconst z, 1)) (hv : Int32.ofInt z = v) (hn : pf n = pf i + 1) : ri_snd (ri_W p l e R s m args below meth c D ka sa base nL Q pf) i (i_con n v) := by
  intro k hk U V L st h hf H locs ls hH hS hl
  have hw := hk _ _ _ _ _ _ hf H locs ls hH hS hl
  rw [hn] at hw
  exact lv_iconst X.1 X.2.1 hd hv hw
theorem s_bipush (X : ri_X p s m args c cc nL Ts own D ka sa base) {z : Int} {v : Int32} (hd : decode cc (pf i) = .ok (.bipush z, 2)) (hv : (Int8.ofInt z).toInt32 = v) (hn : pf n = pf i + 2) : ri_snd (ri_W p l e R s m args below meth c D ka sa base nL Q pf) i (i_con n v) := by
  intro k hk U V L st h hf H locs ls hH hS hl
  have hw := hk _ _ _ _ _ _ hf H locs ls hH hS hl
  rw [hn] at hw
  exact lv_bipush X.1 X.2.1 hd hv hw
theorem s_sipush (X : ri_X p s m args c cc nL Ts own D ka sa base) {z : Int} {v : Int32} (hd : decode cc (pf i) = .ok (.sipush z, 3)) (hv : (Int16.ofInt z).toInt32 = v) (hn : pf n = pf i + 3) : ri_snd (ri_W p l e R s m args below meth c D ka sa base nL Q pf) i (i_con n v) := by
  intro k hk U V L st h hf H locs ls hH hS hl
  have hw := hk _ _ _ _ _ _ hf H locs ls hH hS hl
  rw [hn] at hw
  exact lv_sipush X.1 X.2.1 hd hv hw
theorem s_ldc (X : ri_X p s m args c cc nL Ts own D ka sa base) {ix : Nat} {v : Int32} (hd : decode cc (pf i) = .ok (.ldc ix, 2)) (hv : Cond.constant own ix v ∈ Ts) (hn : pf n = pf i + 2) : ri_snd (ri_W p l e R s m args below meth c D ka sa base nL Q pf) i (i_con n v) := by
  intro k hk U V L st h hf H locs ls hH hS hl
  have hw := hk _ _ _ _ _ _ hf H locs ls hH hS hl
  rw [hn] at hw
  exact lv_ldc X.1 X.2.1 X.2.2.2.1 (X.2.2.2.2.1 _ hv) hd hw
theorem s_iload_n (X : ri_X p s m args c cc nL Ts own D ka sa base) {j : Nat} {f : Fin 4} (hd : decode cc (pf i) = .ok (.iload_n f, 1)) (hj : (f : Nat) = j) (hn : pf n = pf i + 1) : ri_snd (ri_W p l e R s m args below meth c D ka sa base nL Q pf) i (i_il n j) := by
  intro k hk U V L st h hf
  unfold i_il at hf
  split at hf
  · rename_i x hx
    intro H locs ls hH hS hl
    have hw := hk _ _ _ _ _ _ hf H locs ls hH hS hl
    rw [hn] at hw
    exact lv_iload_n X.1 X.2.1 hd hj (hl.2.2 j _ hx).1 hw
  · exact hf.elim
theorem s_iload (X : ri_X p s m args c cc nL Ts own D ka sa base) {j : Nat} (hd : decode cc (pf i) = .ok (.iload j, 2)) (hn : pf n = pf i + 2) : ri_snd (ri_W p l e R s m args below meth c D ka sa base nL Q pf) i (i_il n j) := by
  intro k hk U V L st h hf
  unfold i_il at hf
  split at hf
  · rename_i x hx
    intro H locs ls hH hS hl
    have hw := hk _ _ _ _ _ _ hf H locs ls hH hS hl
    rw [hn] at hw
    exact lv_iload X.1 X.2.1 hd (hl.2.2 j _ hx).1 hw
  · exact hf.elim
theorem s_aload_n (X : ri_X p s m args c cc nL Ts own D ka sa base) {j : Nat} {f : Fin 4} (hd : decode cc (pf i) = .ok (.aload_n f, 1)) (hj : (f : Nat) = j) (hn : pf n = pf i + 1) : ri_snd (ri_W p l e R s m args below meth c D ka sa base nL Q pf) i (i_al n j) := by
  intro k hk U V L st h hf
  unfold i_al at hf
  split at hf
  · rename_i x hx
    intro H locs ls hH hS hl
    have hw := hk _ _ _ _ _ _ hf H locs ls hH hS hl
    rw [hn] at hw
    exact lv_aload_n X.1 X.2.1 hd hj (hl.2.2 j _ hx).1 hw
  · exact hf.elim
theorem s_aload (X : ri_X p s m args c cc nL Ts own D ka sa base) {j : Nat} (hd : decode cc (pf i) = .ok (.aload j, 2)) (hn : pf n = pf i + 2) : ri_snd (ri_W p l e R s m args below meth c D ka sa base nL Q pf) i (i_al n j) := by
  intro k hk U V L st h hf
  unfold i_al at hf
  split at hf
  · rename_i x hx
    intro H locs ls hH hS hl
    have hw := hk _ _ _ _ _ _ hf H locs ls hH hS hl
    rw [hn] at hw
    exact lv_aload X.1 X.2.1 hd (hl.2.2 j _ hx).1 hw
  · exact hf.elim
theorem s_istore_n (X : ri_X p s m args c cc nL Ts own D ka sa base) {j : Nat} {f : Fin 4} (hd : decode cc (pf i) = .ok (.istore_n f, 1)) (hj : (f : Nat) = j) (hL : j < nL) (hn : pf n = pf i + 1) : ri_snd (ri_W p l e R s m args below meth c D ka sa base nL Q pf) i (i_is n j) := by
  intro k hk U V L st h hf
  unfold i_is at hf
  split at hf
  · intro H locs ls hH hS hl
    refine lv_istore_n X.1 X.2.1 hd hj (ri_l_has hl) hL rfl (fun ls' h' => ?_)
    have hw := hk _ _ _ _ _ _ hf H locs ls' hH hS (ri_l_put hl rfl h')
    rw [hn] at hw
    exact hw
  · exact hf.elim
theorem s_istore (X : ri_X p s m args c cc nL Ts own D ka sa base) {j : Nat} (hd : decode cc (pf i) = .ok (.istore j, 2)) (hL : j < nL) (hn : pf n = pf i + 2) : ri_snd (ri_W p l e R s m args below meth c D ka sa base nL Q pf) i (i_is n j) := by
  intro k hk U V L st h hf
  unfold i_is at hf
  split at hf
  · intro H locs ls hH hS hl
    refine lv_istore X.1 X.2.1 hd (ri_l_has hl) hL rfl (fun ls' h' => ?_)
    have hw := hk _ _ _ _ _ _ hf H locs ls' hH hS (ri_l_put hl rfl h')
    rw [hn] at hw
    exact hw
  · exact hf.elim
theorem s_astore_n (X : ri_X p s m args c cc nL Ts own D ka sa base) {j : Nat} {f : Fin 4} (hd : decode cc (pf i) = .ok (.astore_n f, 1)) (hj : (f : Nat) = j) (hL : j < nL) (hn : pf n = pf i + 1) : ri_snd (ri_W p l e R s m args below meth c D ka sa base nL Q pf) i (i_as n j) := by
  intro k hk U V L st h hf
  unfold i_as at hf
  split at hf
  · intro H locs ls hH hS hl
    refine lv_astore_n X.1 X.2.1 hd hj (ri_l_has hl) hL rfl (fun ls' h' => ?_)
    have hw := hk _ _ _ _ _ _ hf H locs ls' hH hS (ri_l_put hl rfl h')
    rw [hn] at hw
    exact hw
  · exact hf.elim
theorem s_astore (X : ri_X p s m args c cc nL Ts own D ka sa base) {j : Nat} (hd : decode cc (pf i) = .ok (.astore j, 2)) (hL : j < nL) (hn : pf n = pf i + 2) : ri_snd (ri_W p l e R s m args below meth c D ka sa base nL Q pf) i (i_as n j) := by
  intro k hk U V L st h hf
  unfold i_as at hf
  split at hf
  · intro H locs ls hH hS hl
    refine lv_astore X.1 X.2.1 hd (ri_l_has hl) hL rfl (fun ls' h' => ?_)
    have hw := hk _ _ _ _ _ _ hf H locs ls' hH hS (ri_l_put hl rfl h')
    rw [hn] at hw
    exact hw
  · exact hf.elim
theorem s_iinc (X : ri_X p s m args c cc nL Ts own D ka sa base) {j : Nat} {z : Int} {v : Int32} (hd : decode cc (pf i) = .ok (.iinc j z, 3)) (hv : Int32.ofInt z = v) (hL : j < nL) (hn : pf n = pf i + 3) : ri_snd (ri_W p l e R s m args below meth c D ka sa base nL Q pf) i (i_inc n j v) := by
  subst hv
  intro k hk U V L st h hf
  unfold i_inc at hf
  split at hf
  · rename_i x hx
    intro H locs ls hH hS hl
    obtain ⟨a, ha⟩ := List.getElem?_of_mem (ri_prs_in (sa := sa) (base := base) hx)
    refine lv_iinc X.1 X.2.1 hd (ri_l_has hl) ha rfl hL rfl (fun ls' h' => ?_)
    have hw := hk _ _ _ _ _ _ hf H locs ls' hH hS (ri_l_put (x := .int (x + Int32.ofInt z)) hl rfl h')
    rw [hn] at hw
    exact hw
  · exact hf.elim
theorem s_iadd (X : ri_X p s m args c cc nL Ts own D ka sa base) (hd : decode cc (pf i) = .ok (.iadd, 1)) (hn : pf n = pf i + 1) : ri_snd (ri_W p l e R s m args below meth c D ka sa base nL Q pf) i (i_bin n (fun x y => x + y)) := by
  intro k hk U V L st h hf
  unfold i_bin at hf
  split at hf
  · intro H locs ls hH hS hl
    have hw := hk _ _ _ _ _ _ hf H locs ls hH hS hl
    rw [hn] at hw
    exact lv_iadd X.1 X.2.1 hd hw
  · exact hf.elim
theorem s_isub (X : ri_X p s m args c cc nL Ts own D ka sa base) (hd : decode cc (pf i) = .ok (.isub, 1)) (hn : pf n = pf i + 1) : ri_snd (ri_W p l e R s m args below meth c D ka sa base nL Q pf) i (i_bin n (fun x y => x - y)) := by
  intro k hk U V L st h hf
  unfold i_bin at hf
  split at hf
  · intro H locs ls hH hS hl
    have hw := hk _ _ _ _ _ _ hf H locs ls hH hS hl
    rw [hn] at hw
    exact lv_isub X.1 X.2.1 hd hw
  · exact hf.elim
theorem s_imul (X : ri_X p s m args c cc nL Ts own D ka sa base) (hd : decode cc (pf i) = .ok (.imul, 1)) (hn : pf n = pf i + 1) : ri_snd (ri_W p l e R s m args below meth c D ka sa base nL Q pf) i (i_bin n (fun x y => x * y)) := by
  intro k hk U V L st h hf
  unfold i_bin at hf
  split at hf
  · intro H locs ls hH hS hl
    have hw := hk _ _ _ _ _ _ hf H locs ls hH hS hl
    rw [hn] at hw
    exact lv_imul X.1 X.2.1 hd hw
  · exact hf.elim
theorem s_iand (X : ri_X p s m args c cc nL Ts own D ka sa base) (hd : decode cc (pf i) = .ok (.iand, 1)) (hn : pf n = pf i + 1) : ri_snd (ri_W p l e R s m args below meth c D ka sa base nL Q pf) i (i_bin n (fun x y => x &&& y)) := by
  intro k hk U V L st h hf
  unfold i_bin at hf
  split at hf
  · intro H locs ls hH hS hl
    have hw := hk _ _ _ _ _ _ hf H locs ls hH hS hl
    rw [hn] at hw
    exact lv_iand X.1 X.2.1 hd hw
  · exact hf.elim
theorem s_ior (X : ri_X p s m args c cc nL Ts own D ka sa base) (hd : decode cc (pf i) = .ok (.ior, 1)) (hn : pf n = pf i + 1) : ri_snd (ri_W p l e R s m args below meth c D ka sa base nL Q pf) i (i_bin n (fun x y => x ||| y)) := by
  intro k hk U V L st h hf
  unfold i_bin at hf
  split at hf
  · intro H locs ls hH hS hl
    have hw := hk _ _ _ _ _ _ hf H locs ls hH hS hl
    rw [hn] at hw
    exact lv_ior X.1 X.2.1 hd hw
  · exact hf.elim
theorem s_ixor (X : ri_X p s m args c cc nL Ts own D ka sa base) (hd : decode cc (pf i) = .ok (.ixor, 1)) (hn : pf n = pf i + 1) : ri_snd (ri_W p l e R s m args below meth c D ka sa base nL Q pf) i (i_bin n (fun x y => x ^^^ y)) := by
  intro k hk U V L st h hf
  unfold i_bin at hf
  split at hf
  · intro H locs ls hH hS hl
    have hw := hk _ _ _ _ _ _ hf H locs ls hH hS hl
    rw [hn] at hw
    exact lv_ixor X.1 X.2.1 hd hw
  · exact hf.elim
theorem s_ishl (X : ri_X p s m args c cc nL Ts own D ka sa base) (hd : decode cc (pf i) = .ok (.ishl, 1)) (hn : pf n = pf i + 1) : ri_snd (ri_W p l e R s m args below meth c D ka sa base nL Q pf) i (i_bin n (fun x y => x <<< (y &&& 31))) := by
  intro k hk U V L st h hf
  unfold i_bin at hf
  split at hf
  · intro H locs ls hH hS hl
    have hw := hk _ _ _ _ _ _ hf H locs ls hH hS hl
    rw [hn] at hw
    exact lv_ishl X.1 X.2.1 hd hw
  · exact hf.elim
theorem s_ishr (X : ri_X p s m args c cc nL Ts own D ka sa base) (hd : decode cc (pf i) = .ok (.ishr, 1)) (hn : pf n = pf i + 1) : ri_snd (ri_W p l e R s m args below meth c D ka sa base nL Q pf) i (i_bin n (fun x y => x >>> (y &&& 31))) := by
  intro k hk U V L st h hf
  unfold i_bin at hf
  split at hf
  · intro H locs ls hH hS hl
    have hw := hk _ _ _ _ _ _ hf H locs ls hH hS hl
    rw [hn] at hw
    exact lv_ishr X.1 X.2.1 hd hw
  · exact hf.elim
theorem s_iushr (X : ri_X p s m args c cc nL Ts own D ka sa base) (hd : decode cc (pf i) = .ok (.iushr, 1)) (hn : pf n = pf i + 1) : ri_snd (ri_W p l e R s m args below meth c D ka sa base nL Q pf) i (i_bin n (fun x y => (x.toUInt32 >>> (y.toUInt32 &&& Int32.toUInt32 31)).toInt32)) := by
  intro k hk U V L st h hf
  unfold i_bin at hf
  split at hf
  · intro H locs ls hH hS hl
    have hw := hk _ _ _ _ _ _ hf H locs ls hH hS hl
    rw [hn] at hw
    exact lv_iushr X.1 X.2.1 hd rfl hw
  · exact hf.elim
theorem s_idiv (X : ri_X p s m args c cc nL Ts own D ka sa base) (hd : decode cc (pf i) = .ok (.idiv, 1)) (hn : pf n = pf i + 1) : ri_snd (ri_W p l e R s m args below meth c D ka sa base nL Q pf) i (i_div n (fun x y => x / y)) := by
  intro k hk U V L st h hf
  unfold i_div at hf
  split at hf
  · intro H locs ls hH hS hl
    have hw := hk _ _ _ _ _ _ hf.2 H locs ls hH hS hl
    rw [hn] at hw
    exact lv_idiv X.1 X.2.1 hd hf.1 hw
  · exact hf.elim
theorem s_irem (X : ri_X p s m args c cc nL Ts own D ka sa base) (hd : decode cc (pf i) = .ok (.irem, 1)) (hn : pf n = pf i + 1) : ri_snd (ri_W p l e R s m args below meth c D ka sa base nL Q pf) i (i_div n (fun x y => x - x / y * y)) := by
  intro k hk U V L st h hf
  unfold i_div at hf
  split at hf
  · intro H locs ls hH hS hl
    have hw := hk _ _ _ _ _ _ hf.2 H locs ls hH hS hl
    rw [hn] at hw
    exact lv_irem X.1 X.2.1 hd hf.1 hw
  · exact hf.elim
theorem s_ineg (X : ri_X p s m args c cc nL Ts own D ka sa base) (hd : decode cc (pf i) = .ok (.ineg, 1)) (hn : pf n = pf i + 1) : ri_snd (ri_W p l e R s m args below meth c D ka sa base nL Q pf) i (i_un n (fun x => -x)) := by
  intro k hk U V L st h hf
  unfold i_un at hf
  split at hf
  · intro H locs ls hH hS hl
    have hw := hk _ _ _ _ _ _ hf H locs ls hH hS hl
    rw [hn] at hw
    exact lv_ineg X.1 X.2.1 hd hw
  · exact hf.elim
theorem s_if_eq (X : ri_X p s m args c cc nL Ts own D ka sa base) {off : Int} (hd : decode cc (pf i) = .ok (.ifCond .eq off, 3)) (ht : (pf i : Int) + off = (pf t : Int)) (hn : pf n = pf i + 3) : ri_snd (ri_W p l e R s m args below meth c D ka sa base nL Q pf) i (i_if n t (fun x => x = 0)) := by
  intro k hk U V L st h hf
  unfold i_if at hf
  split at hf
  · intro H locs ls hH hS hl
    refine lv_if_eq X.1 X.2.1 hd ht (fun q => hk _ _ _ _ _ _ (hf.1 q) H locs ls hH hS hl) (fun q => ?_)
    have hw := hk _ _ _ _ _ _ (hf.2 (by first | exact q | exact fun z => z q)) H locs ls hH hS hl
    rw [hn] at hw
    exact hw
  · exact hf.elim
theorem s_icmp_eq (X : ri_X p s m args c cc nL Ts own D ka sa base) {off : Int} (hd : decode cc (pf i) = .ok (.if_icmp .eq off, 3)) (ht : (pf i : Int) + off = (pf t : Int)) (hn : pf n = pf i + 3) : ri_snd (ri_W p l e R s m args below meth c D ka sa base nL Q pf) i (i_icmp n t (fun x y => x = y)) := by
  intro k hk U V L st h hf
  unfold i_icmp at hf
  split at hf
  · intro H locs ls hH hS hl
    refine lv_icmp_eq X.1 X.2.1 hd ht (fun q => hk _ _ _ _ _ _ (hf.1 q) H locs ls hH hS hl) (fun q => ?_)
    have hw := hk _ _ _ _ _ _ (hf.2 (by first | exact q | exact fun z => z q)) H locs ls hH hS hl
    rw [hn] at hw
    exact hw
  · exact hf.elim
theorem s_if_ne (X : ri_X p s m args c cc nL Ts own D ka sa base) {off : Int} (hd : decode cc (pf i) = .ok (.ifCond .ne off, 3)) (ht : (pf i : Int) + off = (pf t : Int)) (hn : pf n = pf i + 3) : ri_snd (ri_W p l e R s m args below meth c D ka sa base nL Q pf) i (i_if n t (fun x => ¬ x = 0)) := by
  intro k hk U V L st h hf
  unfold i_if at hf
  split at hf
  · intro H locs ls hH hS hl
    refine lv_if_ne X.1 X.2.1 hd ht (fun q => hk _ _ _ _ _ _ (hf.1 q) H locs ls hH hS hl) (fun q => ?_)
    have hw := hk _ _ _ _ _ _ (hf.2 (by first | exact q | exact fun z => z q)) H locs ls hH hS hl
    rw [hn] at hw
    exact hw
  · exact hf.elim
theorem s_icmp_ne (X : ri_X p s m args c cc nL Ts own D ka sa base) {off : Int} (hd : decode cc (pf i) = .ok (.if_icmp .ne off, 3)) (ht : (pf i : Int) + off = (pf t : Int)) (hn : pf n = pf i + 3) : ri_snd (ri_W p l e R s m args below meth c D ka sa base nL Q pf) i (i_icmp n t (fun x y => ¬ x = y)) := by
  intro k hk U V L st h hf
  unfold i_icmp at hf
  split at hf
  · intro H locs ls hH hS hl
    refine lv_icmp_ne X.1 X.2.1 hd ht (fun q => hk _ _ _ _ _ _ (hf.1 q) H locs ls hH hS hl) (fun q => ?_)
    have hw := hk _ _ _ _ _ _ (hf.2 (by first | exact q | exact fun z => z q)) H locs ls hH hS hl
    rw [hn] at hw
    exact hw
  · exact hf.elim
theorem s_if_lt (X : ri_X p s m args c cc nL Ts own D ka sa base) {off : Int} (hd : decode cc (pf i) = .ok (.ifCond .lt off, 3)) (ht : (pf i : Int) + off = (pf t : Int)) (hn : pf n = pf i + 3) : ri_snd (ri_W p l e R s m args below meth c D ka sa base nL Q pf) i (i_if n t (fun x => x < 0)) := by
  intro k hk U V L st h hf
  unfold i_if at hf
  split at hf
  · intro H locs ls hH hS hl
    refine lv_if_lt X.1 X.2.1 hd ht (fun q => hk _ _ _ _ _ _ (hf.1 q) H locs ls hH hS hl) (fun q => ?_)
    have hw := hk _ _ _ _ _ _ (hf.2 (by first | exact q | exact fun z => z q)) H locs ls hH hS hl
    rw [hn] at hw
    exact hw
  · exact hf.elim
theorem s_icmp_lt (X : ri_X p s m args c cc nL Ts own D ka sa base) {off : Int} (hd : decode cc (pf i) = .ok (.if_icmp .lt off, 3)) (ht : (pf i : Int) + off = (pf t : Int)) (hn : pf n = pf i + 3) : ri_snd (ri_W p l e R s m args below meth c D ka sa base nL Q pf) i (i_icmp n t (fun x y => x < y)) := by
  intro k hk U V L st h hf
  unfold i_icmp at hf
  split at hf
  · intro H locs ls hH hS hl
    refine lv_icmp_lt X.1 X.2.1 hd ht (fun q => hk _ _ _ _ _ _ (hf.1 q) H locs ls hH hS hl) (fun q => ?_)
    have hw := hk _ _ _ _ _ _ (hf.2 (by first | exact q | exact fun z => z q)) H locs ls hH hS hl
    rw [hn] at hw
    exact hw
  · exact hf.elim
theorem s_if_ge (X : ri_X p s m args c cc nL Ts own D ka sa base) {off : Int} (hd : decode cc (pf i) = .ok (.ifCond .ge off, 3)) (ht : (pf i : Int) + off = (pf t : Int)) (hn : pf n = pf i + 3) : ri_snd (ri_W p l e R s m args below meth c D ka sa base nL Q pf) i (i_if n t (fun x => 0 ≤ x)) := by
  intro k hk U V L st h hf
  unfold i_if at hf
  split at hf
  · intro H locs ls hH hS hl
    refine lv_if_ge X.1 X.2.1 hd ht (fun q => hk _ _ _ _ _ _ (hf.1 q) H locs ls hH hS hl) (fun q => ?_)
    have hw := hk _ _ _ _ _ _ (hf.2 (by first | exact q | exact fun z => z q)) H locs ls hH hS hl
    rw [hn] at hw
    exact hw
  · exact hf.elim
theorem s_icmp_ge (X : ri_X p s m args c cc nL Ts own D ka sa base) {off : Int} (hd : decode cc (pf i) = .ok (.if_icmp .ge off, 3)) (ht : (pf i : Int) + off = (pf t : Int)) (hn : pf n = pf i + 3) : ri_snd (ri_W p l e R s m args below meth c D ka sa base nL Q pf) i (i_icmp n t (fun x y => y ≤ x)) := by
  intro k hk U V L st h hf
  unfold i_icmp at hf
  split at hf
  · intro H locs ls hH hS hl
    refine lv_icmp_ge X.1 X.2.1 hd ht (fun q => hk _ _ _ _ _ _ (hf.1 q) H locs ls hH hS hl) (fun q => ?_)
    have hw := hk _ _ _ _ _ _ (hf.2 (by first | exact q | exact fun z => z q)) H locs ls hH hS hl
    rw [hn] at hw
    exact hw
  · exact hf.elim
theorem s_if_gt (X : ri_X p s m args c cc nL Ts own D ka sa base) {off : Int} (hd : decode cc (pf i) = .ok (.ifCond .gt off, 3)) (ht : (pf i : Int) + off = (pf t : Int)) (hn : pf n = pf i + 3) : ri_snd (ri_W p l e R s m args below meth c D ka sa base nL Q pf) i (i_if n t (fun x => 0 < x)) := by
  intro k hk U V L st h hf
  unfold i_if at hf
  split at hf
  · intro H locs ls hH hS hl
    refine lv_if_gt X.1 X.2.1 hd ht (fun q => hk _ _ _ _ _ _ (hf.1 q) H locs ls hH hS hl) (fun q => ?_)
    have hw := hk _ _ _ _ _ _ (hf.2 (by first | exact q | exact fun z => z q)) H locs ls hH hS hl
    rw [hn] at hw
    exact hw
  · exact hf.elim
theorem s_icmp_gt (X : ri_X p s m args c cc nL Ts own D ka sa base) {off : Int} (hd : decode cc (pf i) = .ok (.if_icmp .gt off, 3)) (ht : (pf i : Int) + off = (pf t : Int)) (hn : pf n = pf i + 3) : ri_snd (ri_W p l e R s m args below meth c D ka sa base nL Q pf) i (i_icmp n t (fun x y => y < x)) := by
  intro k hk U V L st h hf
  unfold i_icmp at hf
  split at hf
  · intro H locs ls hH hS hl
    refine lv_icmp_gt X.1 X.2.1 hd ht (fun q => hk _ _ _ _ _ _ (hf.1 q) H locs ls hH hS hl) (fun q => ?_)
    have hw := hk _ _ _ _ _ _ (hf.2 (by first | exact q | exact fun z => z q)) H locs ls hH hS hl
    rw [hn] at hw
    exact hw
  · exact hf.elim
theorem s_if_le (X : ri_X p s m args c cc nL Ts own D ka sa base) {off : Int} (hd : decode cc (pf i) = .ok (.ifCond .le off, 3)) (ht : (pf i : Int) + off = (pf t : Int)) (hn : pf n = pf i + 3) : ri_snd (ri_W p l e R s m args below meth c D ka sa base nL Q pf) i (i_if n t (fun x => x ≤ 0)) := by
  intro k hk U V L st h hf
  unfold i_if at hf
  split at hf
  · intro H locs ls hH hS hl
    refine lv_if_le X.1 X.2.1 hd ht (fun q => hk _ _ _ _ _ _ (hf.1 q) H locs ls hH hS hl) (fun q => ?_)
    have hw := hk _ _ _ _ _ _ (hf.2 (by first | exact q | exact fun z => z q)) H locs ls hH hS hl
    rw [hn] at hw
    exact hw
  · exact hf.elim
theorem s_icmp_le (X : ri_X p s m args c cc nL Ts own D ka sa base) {off : Int} (hd : decode cc (pf i) = .ok (.if_icmp .le off, 3)) (ht : (pf i : Int) + off = (pf t : Int)) (hn : pf n = pf i + 3) : ri_snd (ri_W p l e R s m args below meth c D ka sa base nL Q pf) i (i_icmp n t (fun x y => x ≤ y)) := by
  intro k hk U V L st h hf
  unfold i_icmp at hf
  split at hf
  · intro H locs ls hH hS hl
    refine lv_icmp_le X.1 X.2.1 hd ht (fun q => hk _ _ _ _ _ _ (hf.1 q) H locs ls hH hS hl) (fun q => ?_)
    have hw := hk _ _ _ _ _ _ (hf.2 (by first | exact q | exact fun z => z q)) H locs ls hH hS hl
    rw [hn] at hw
    exact hw
  · exact hf.elim
theorem s_goto (X : ri_X p s m args c cc nL Ts own D ka sa base) {off : Int} (hd : decode cc (pf i) = .ok (.goto off, 3)) (ht : (pf i : Int) + off = (pf t : Int)) : ri_snd (ri_W p l e R s m args below meth c D ka sa base nL Q pf) i (i_goto t) := by
  intro k hk U V L st h hf H locs ls hH hS hl
  exact lv_goto X.1 X.2.1 hd ht (hk _ _ _ _ _ _ hf H locs ls hH hS hl)
theorem s_dup (X : ri_X p s m args c cc nL Ts own D ka sa base) (hd : decode cc (pf i) = .ok (.dup, 1)) (hn : pf n = pf i + 1) : ri_snd (ri_W p l e R s m args below meth c D ka sa base nL Q pf) i (i_dup n) := by
  intro k hk U V L st h hf
  unfold i_dup at hf
  split at hf
  · rename_i a r
    cases ha : ri_cat1 a with
    | false => rw [ha] at hf; exact hf.elim
    | true =>
      rw [ha] at hf
      intro H locs ls hH hS hl
      have hw := hk _ _ _ _ _ _ hf H locs ls hH hS hl
      rw [hn] at hw
      exact lv_dup X.1 X.2.1 hd (by rw [ri_v_cat]; exact ri_cat1_ok ha) hw
  · exact hf.elim
theorem s_pop (X : ri_X p s m args c cc nL Ts own D ka sa base) (hd : decode cc (pf i) = .ok (.pop, 1)) (hn : pf n = pf i + 1) : ri_snd (ri_W p l e R s m args below meth c D ka sa base nL Q pf) i (i_pop n) := by
  intro k hk U V L st h hf
  unfold i_pop at hf
  split at hf
  · rename_i a r
    cases ha : ri_cat1 a with
    | false => rw [ha] at hf; exact hf.elim
    | true =>
      rw [ha] at hf
      intro H locs ls hH hS hl
      have hw := hk _ _ _ _ _ _ hf H locs ls hH hS hl
      rw [hn] at hw
      exact lv_pop X.1 X.2.1 hd (va := ri_v sa base a) (by rw [ri_v_cat]; exact ri_cat1_ok ha) hw
  · exact hf.elim
theorem s_dup2 (X : ri_X p s m args c cc nL Ts own D ka sa base) (hd : decode cc (pf i) = .ok (.dup2, 1)) (hn : pf n = pf i + 1) : ri_snd (ri_W p l e R s m args below meth c D ka sa base nL Q pf) i (i_dup2 n) := by
  intro k hk U V L st h hf
  unfold i_dup2 at hf
  split at hf
  · rename_i a b r
    cases ha : ri_cat1 a <;> cases hb : ri_cat1 b <;> rw [ha, hb] at hf <;> first | exact hf.elim | skip
    intro H locs ls hH hS hl
    have hw := hk _ _ _ _ _ _ hf H locs ls hH hS hl
    rw [hn] at hw
    exact lv_dup2_11 X.1 X.2.1 hd (va := ri_v sa base a) (vb := ri_v sa base b) (by rw [ri_v_cat]; exact ri_cat1_ok ha) (by rw [ri_v_cat]; exact ri_cat1_ok hb) hw
  · exact hf.elim
theorem s_dup_x1 (X : ri_X p s m args c cc nL Ts own D ka sa base) (hd : decode cc (pf i) = .ok (.dup_x1, 1)) (hn : pf n = pf i + 1) : ri_snd (ri_W p l e R s m args below meth c D ka sa base nL Q pf) i (i_dupx1 n) := by
  intro k hk U V L st h hf
  unfold i_dupx1 at hf
  split at hf
  · rename_i a b r
    cases ha : ri_cat1 a <;> cases hb : ri_cat1 b <;> rw [ha, hb] at hf <;> first | exact hf.elim | skip
    intro H locs ls hH hS hl
    have hw := hk _ _ _ _ _ _ hf H locs ls hH hS hl
    rw [hn] at hw
    exact lv_dup_x1 X.1 X.2.1 hd (va := ri_v sa base a) (vb := ri_v sa base b) (by rw [ri_v_cat]; exact ri_cat1_ok ha) (by rw [ri_v_cat]; exact ri_cat1_ok hb) hw
  · exact hf.elim
theorem s_dup_x2 (X : ri_X p s m args c cc nL Ts own D ka sa base) (hd : decode cc (pf i) = .ok (.dup_x2, 1)) (hn : pf n = pf i + 1) : ri_snd (ri_W p l e R s m args below meth c D ka sa base nL Q pf) i (i_dupx2 n) := by
  intro k hk U V L st h hf
  unfold i_dupx2 at hf
  split at hf
  · rename_i a b d r
    cases ha : ri_cat1 a <;> cases hb : ri_cat1 b <;> cases hd3 : ri_cat1 d <;> rw [ha, hb, hd3] at hf <;> first | exact hf.elim | skip
    intro H locs ls hH hS hl
    have hw := hk _ _ _ _ _ _ hf H locs ls hH hS hl
    rw [hn] at hw
    exact lv_dup_x2 X.1 X.2.1 hd (va := ri_v sa base a) (vb := ri_v sa base b) (vd := ri_v sa base d) (by rw [ri_v_cat]; exact ri_cat1_ok ha) (by rw [ri_v_cat]; exact ri_cat1_ok hb) (by rw [ri_v_cat]; exact ri_cat1_ok hd3) hw
  · exact hf.elim
end RIS
