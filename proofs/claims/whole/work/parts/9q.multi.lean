/-! multianewarray, of two dimensions, the inner one of ints: rows of our own -/
/-- what the table's word on arrays of int arrays says -/
theorem mu_over {args : Array Value} {s : State} (h : (Cond.arrayOver (.array .int)).before args s = true) : ∃ (co : ClassId) (cA : ClassId) (k : Class), s.vm.findClass "[I" = some co ∧ s.vm.classes[cA]? = some k ∧ k.kind = .array co (.array .int) ∧ s.vm.findClass "[[I" = some cA := by
  unfold Cond.before Cond.holds at h
  simp only [Cond.value, beq_iff_eq] at h
  obtain ⟨co, hco, h⟩ := Option.bind_eq_some_iff.mp h
  obtain ⟨cA, hi, h⟩ := Option.bind_eq_some_iff.mp h
  obtain ⟨k, hk, h⟩ := Option.map_eq_some_iff.mp h
  obtain ⟨hlt, hp, -⟩ := Array.findIdx?_eq_some_iff_getElem.mp hi
  rw [(Array.getElem?_eq_some_iff.mp hk).2] at hp
  refine ⟨co, cA, k, hco, hk, ?_⟩
  generalize k.kind = K at hp h
  cases K with
  | array a t =>
    simp only [Bool.and_eq_true, beq_iff_eq, decide_eq_true_eq] at hp h
    exact ⟨by rw [hp, h.1], h.2⟩
  | _ => cases hp
/-- what stands in the outer array once i inner ones are made, the outer one at a -/
def mu_f (a i j : Nat) : Value := if j < i then .ref (a + 1 + j) else .null
theorem mu_f_next (a i : Nat) : updV (mu_f a i) i (.ref (a + 1 + i)) = mu_f a (i + 1) := by
  funext j
  unfold updV mu_f
  rcases Nat.lt_trichotomy j i with h | h | h
  · rw [if_neg (Nat.ne_of_lt h), if_pos h, if_pos (Nat.lt_succ_of_lt h)]
  · subst h
    rw [if_pos rfl, if_pos (Nat.lt_succ_self _)]
  · rw [if_neg (Nat.ne_of_gt h), if_neg (Nat.not_lt_of_gt h), if_neg (by omega)]
/-- the state once i inner arrays are made -/
def mu_s (T : State) (cA c0 : ClassId) (N M : Nat) : Nat → State
  | 0 => T.pushCell (arrV cA N (mu_f T.heap.size 0))
  | i + 1 => ((mu_s T cA c0 N M i).pushCell (arrV c0 M (fun _ => .int 0))).setCell T.heap.size (arrV cA N (mu_f T.heap.size (i + 1)))
theorem mu_top (T : State) (f : JFrame) (cA c0 : ClassId) (N M i : Nat) : mu_s (T.setTop f) cA c0 N M i = (mu_s T cA c0 N M i).setTop f := by
  induction i with
  | zero => rfl
  | succ i ih => rw [mu_s, ih]; rfl
theorem mu_is (T : State) (cA c0 : ClassId) (N M i : Nat) : ((mu_s T cA c0 N M i).heap.size = T.heap.size + 1 + i ∧ (mu_s T cA c0 N M i).vm = T.vm ∧ (mu_s T cA c0 N M i).slotsUsed = T.slotsUsed + N + i * M) ∧ (mu_s T cA c0 N M i).heap[T.heap.size]? = some (arrV cA N (mu_f T.heap.size i)) ∧ (∀ q, q < T.heap.size → (mu_s T cA c0 N M i).heap[q]? = T.heap[q]?) ∧ ∀ j, j < i → (mu_s T cA c0 N M i).heap[T.heap.size + 1 + j]? = some (arrV c0 M (fun _ => .int 0)) := by
  induction i with
  | zero =>
    refine ⟨⟨by simp [mu_s], rfl, by simp [mu_s, arrV_size]⟩, State.heap_pushCell_size _ _, fun q hq => State.heap_pushCell_of_lt _ _ hq, fun j hj => absurd hj (Nat.not_lt_zero _)⟩
  | succ i ih =>
    obtain ⟨⟨z, v, u⟩, a, o, n⟩ := ih
    rw [mu_s]
    generalize mu_s T cA c0 N M i = S at z v u a o n
    have old : ∀ q, q < T.heap.size + 1 + i → (S.pushCell (arrV c0 M (fun _ => .int 0))).heap[q]? = S.heap[q]? := fun q hq => State.heap_pushCell_of_lt _ _ (by rw [z]; exact hq)
    have oth : ∀ q, q ≠ T.heap.size → ((S.pushCell (arrV c0 M (fun _ => .int 0))).setCell T.heap.size (arrV cA N (mu_f T.heap.size (i + 1)))).heap[q]? = (S.pushCell (arrV c0 M (fun _ => .int 0))).heap[q]? := fun q hq => State.heap_setCell_other (Ne.symm hq)
    refine ⟨⟨?_, ?_, ?_⟩, State.heap_setCell_self ((old _ (by omega)).trans a), fun q hq => ?_, fun j hj => ?_⟩
    · simp [State.setCell, z]; omega
    · simp [v]
    · simp [u, arrV_size, Nat.succ_mul]; omega
    · rw [oth q (Nat.ne_of_lt hq), old q (by omega), o q hq]
    · rw [oth _ (by omega)]
      rcases Nat.lt_or_ge j i with h | h
      · rw [old _ (by omega), n j h]
      · obtain rfl : j = i := by omega
        rw [← z]
        exact State.heap_pushCell_size _ _
section MUW
variable {E : CtlPost} {e : Env} {d : Bool} {acts : List Action} {s : State}
/-- one inner array -/
theorem mu_in {c0 cc : ClassId} {k0 : Class} {y : Int32} (hk : s.vm.classes[c0]? = some k0) (hki : k0.kind = .array cc .int) (hy : ¬ y < 0) (hl : ¬ y.toNatClampNeg > e.platform.arrayLengthLimit) (hh : ¬ y.toNatClampNeg * 4 > e.platform.maxHeapBytes) (h1 : s.heap.size < e.platform.maxCells) (h2 : s.slotsUsed + y.toNatClampNeg ≤ e.platform.maxSlots) {Q : Addr → Pre} (hq : ∀ acts', Q s.heap.size d acts' (s.pushCell (arrV c0 y.toNatClampNeg (fun _ => .int 0)))) : wp (multianewarray.make c0 [y]) Q E e d acts s := by
  rw [multianewarray.make]
  simp only [wp_bind', W.ite, hy, if_false, wp_pure', W.theClass, hk, hki, Option.some.injEq, exists_eq_left']
  refine W.newArray_of hk hki hl hh h1 h2 rfl fun acts' => ?_
  have hc := hq acts'
  rw [← arrV_new] at hc
  exact hc
/-- both dimensions -/
theorem mu_out {cA c0 cc : ClassId} {kA k0 : Class} {x y : Int32} (hA : s.vm.classes[cA]? = some kA) (hAi : kA.kind = .array c0 (.array .int)) (hk : s.vm.classes[c0]? = some k0) (hki : k0.kind = .array cc .int) (hx : ¬ x < 0) (hy : ¬ y < 0) (hl : ∀ n, n * 4 ≤ 536870912 → ¬ n > e.platform.arrayLengthLimit ∧ ¬ n * 4 > e.platform.maxHeapBytes) (hx4 : x.toNatClampNeg * 4 ≤ 536870912) (hy4 : y.toNatClampNeg * 4 ≤ 536870912) (h1 : s.heap.size + (1 + x.toNatClampNeg) ≤ e.platform.maxCells) (h2 : s.slotsUsed + (x.toNatClampNeg + x.toNatClampNeg * y.toNatClampNeg) ≤ e.platform.maxSlots) {Q : Addr → Pre} (hq : ∀ d' acts', Q s.heap.size d' acts' (mu_s s cA c0 x.toNatClampNeg y.toNatClampNeg x.toNatClampNeg)) : wp (multianewarray.make cA [x, y]) Q E e d acts s := by
  have hno : List.find? (fun z : Int32 => decide (z < 0)) [y] = none := by simp [hy]
  rw [multianewarray.make]
  simp only [wp_bind', W.ite, hx, if_false, wp_pure', W.theClass, hA, hAi, Option.some.injEq, exists_eq_left', hno, ite_self]
  refine W.newArray_of hA hAi (hl _ hx4).1 (hl _ hx4).2 (by omega) (by omega) rfl fun acts' => ?_
  have e0 : s.pushCell { cls := cA, slots := Array.replicate x.toNatClampNeg .null } = mu_s s cA c0 x.toNatClampNeg y.toNatClampNeg 0 := congrArg s.pushCell (arrV_new cA x.toNatClampNeg .null)
  rw [e0, Std.Legacy.Range.forIn_eq_forIn_range', show ([:x.toNatClampNeg] : Std.Legacy.Range).size = x.toNatClampNeg by simp [Std.Legacy.Range.size], wp_bind']
  refine wp_forIn_inv (fun rest S => rest.length ≤ x.toNatClampNeg ∧ rest = List.range' (x.toNatClampNeg - rest.length) rest.length ∧ S = mu_s s cA c0 x.toNatClampNeg y.toNatClampNeg (x.toNatClampNeg - rest.length)) _ _ ⟨Nat.le_of_eq List.length_range', by rw [List.length_range', Nat.sub_self], by rw [List.length_range', Nat.sub_self]⟩ ?_ ?_
  · rintro i rest S d' acts' Q' ⟨hle, hr, rfl⟩ hnext
    rw [List.length_cons] at hle hr ⊢
    rw [List.range'_succ] at hr
    obtain ⟨hi, hr⟩ := List.cons.inj hr
    obtain ⟨hin, hi1⟩ : i < x.toNatClampNeg ∧ x.toNatClampNeg - rest.length = i + 1 := by omega
    rw [← hi] at hr ⊢
    obtain ⟨⟨z, v, u⟩, a, -, -⟩ := mu_is s cA c0 x.toNatClampNeg y.toNatClampNeg i
    have hm := Nat.mul_le_mul_right y.toNatClampNeg (show i + 1 ≤ x.toNatClampNeg from hin)
    rw [Nat.succ_mul] at hm
    simp only [wp_bind']
    refine mu_in (by rw [v]; exact hk) hki hy (hl _ hy4).1 (hl _ hy4).2 (by omega) (by omega) fun acts'' => ?_
    simp only [wp_bind', W.writeLoc, wp_pure']
    have hlt : s.heap.size < (mu_s s cA c0 x.toNatClampNeg y.toNatClampNeg i).heap.size := by rw [z]; omega
    refine ⟨_, (State.heap_pushCell_of_lt _ _ hlt).trans a, by simp [arrV], by rw [arrV_size]; exact hin, ?_, hnext _ _ _ ⟨by omega, by rw [hi1]; exact hr, ?_⟩⟩
    · simp [arrV, State.fitsSlot, State.slotType?, v, hA, hAi]
      rfl
    · rw [hi1, z, arrV_store, mu_f_next]
      rfl
  · rintro S d' acts' ⟨-, -, rfl⟩
    simp only [wp_pure']
    exact hq _ _
end MUW
/-- an array of int arrays, and these -/
def i_mul2 (n kd : Nat) (RC RS : Nat) : ri_S := fun k U V L st h => match st with
  | .int y :: .int x :: r => ¬ x < 0 ∧ ¬ y < 0 ∧ bif Nat.ble (x.toNatClampNeg * 4) 536870912 && (Nat.ble (y.toNatClampNeg * 4) 536870912 && (Nat.ble (U + (1 + x.toNatClampNeg)) RC && Nat.ble (V + (x.toNatClampNeg + x.toNatClampNeg * y.toNatClampNeg)) RS)) then k n (U + 1 + x.toNatClampNeg) (V + x.toNatClampNeg + x.toNatClampNeg * y.toNatClampNeg) L (.ref (16 + h.length) :: r) (h ++ (.inl (kd, x.toNatClampNeg, .inr (fun j => bif Nat.blt j x.toNatClampNeg then some (16 + h.length + 1 + j) else none)) :: List.replicate x.toNatClampNeg (.inl (0, y.toNatClampNeg, .inl (fun _ => 0))))) else False
  | _ => False
section RIM
variable {p : Program} {l : Launch} {e : Env} {R : Room} {s : State} {m : MethodId} {args : Array Value} {below : List Frame} {meth : Method} {c : Code} {Q : State → Prop} {cc : ByteArray} {nL : Nat} {Ts : List Cond} {own : String} {D : va_G} {ka : Nat → ClassId} {sa : Nat → Nat} {base : Nat} {pf : Nat → Nat} {i n t : Nat}
theorem mu_stand {T : State} {locs : List Loc} {cells slots : Nat} (X : Stand p l e R s m args below meth c T locs cells slots) (cA c0 : ClassId) (N M i : Nat) : Stand p l e R s m args below meth c (mu_s T cA c0 N M i) (locs ++ (List.range i).map fun j => ⟨T.heap.size, j⟩) (cells + 1 + i) (slots + N + i * M) := by
  induction i with
  | zero =>
    have h := X.pushed (arrV cA N (mu_f T.heap.size 0))
    rw [arrV_size] at h
    rw [Nat.zero_mul]
    simpa [mu_s] using h
  | succ i ih =>
    obtain ⟨⟨z, -, -⟩, a, -, -⟩ := mu_is T cA c0 N M i
    have hlt : T.heap.size < (mu_s T cA c0 N M i).heap.size := by rw [z]; omega
    have h := (ih.pushed (arrV c0 M (fun _ => .int 0))).stored ((State.heap_pushCell_of_lt _ _ hlt).trans a) i (.ref (T.heap.size + 1 + i))
    rw [arrV_size, arrV_store, mu_f_next, List.append_assoc] at h
    rw [List.range_succ, List.map_append, Nat.succ_mul, ← Nat.add_assoc (slots + N)]
    exact h
/-- the step -/
theorem mu_step {S : State} {locs : List Loc} {cells slots ix : Nat} (XS : Stand p l e R s m args below meth c S locs cells slots) (hexec : p.tables.exec = Jvm.exec) (hown : s.vm.findClass own = some m.cls) (hcl : (Cond.classLink own ix "[[I").before args s = true) {c0 cA cc : ClassId} {kA k0 : Class} (hcA : s.vm.findClass "[[I" = some cA) (hA : s.vm.classes[cA]? = some kA) (hAi : kA.kind = .array c0 (.array .int)) (h0 : s.vm.classes[c0]? = some k0) (h0i : k0.kind = .array cc .int) {g : JFrame} (hg : g.method = m) (hd : decode c.code g.pc = .ok (.multianewarray ix 2, 4)) {x y : Int32} {rest : List Value} (hst : g.stack = .int y :: .int x :: rest) (hx : ¬ x < 0) (hy : ¬ y < 0) (hx4 : x.toNatClampNeg * 4 ≤ 536870912) (hy4 : y.toNatClampNeg * 4 ≤ 536870912) (h1 : cells + (1 + x.toNatClampNeg) ≤ R.cells) (h2 : slots + (x.toNatClampNeg + x.toNatClampNeg * y.toNatClampNeg) ≤ R.slots) :
    ∃ vm₁ : Vm, s.WarmedH vm₁ ∧ ∀ t, Steps p.tables e below ((mu_s (S.setVm vm₁) cA c0 x.toNatClampNeg y.toNatClampNeg x.toNatClampNeg).setTop { g with pc := g.pc + 4, stack := .ref S.heap.size :: rest }) t → Steps p.tables e below (S.setTop g) t := by
  subst hg
  obtain ⟨c1, hc1, hln⟩ := Cond.classLink_spec hown hcl e.platform (by rw [XS.admits.platform])
  obtain rfl : cA = c1 := Option.some.inj (hcA.symm.trans hc1)
  obtain ⟨hgv, hwm, -⟩ := State.classEntry (e := e) XS.warmed hln
  refine ⟨_, hwm, fun t ht => ?_⟩
  generalize S.vm.noted g.method.cls ix (.cls cA) = vm₁ at hgv hwm ht
  obtain ⟨kA', hA', eA⟩ := hwm.alike.2.2 _ _ hA
  obtain ⟨k0', h0', e0⟩ := hwm.alike.2.2 _ _ h0
  obtain ⟨r1, r2⟩ := XS.roomAbove h1 h2
  have hlim : ∀ n : Nat, n * 4 ≤ 536870912 → ¬ n > e.platform.arrayLengthLimit ∧ ¬ n * 4 > e.platform.maxHeapBytes := by
    intro n hn
    rw [Launch.admits_arrayLengthLimit XS.admits, Launch.admits_maxHeapBytes XS.admits]
    omega
  have XF := mu_stand (XS.noted hwm) cA c0 x.toNatClampNeg y.toNatClampNeg x.toNatClampNeg
  jvm_step XS.here [hexec, hd]
  simp only [multianewarray.sem, wp_bind', W.resolveClassAt_links (State.method?_setTop g XS.here.top) hgv]
  refine (Jvm.Op.popN_top (s := S.setVm vm₁) (f := g) (args := [.int x, .int y]) (rest := rest) XS.here.top hst).mpr ?_
  simp only [List.mapM_cons, List.mapM_nil, wp_bind', wp_pure']
  refine mu_out (s := (S.setVm vm₁).setTop { g with stack := rest }) (cA := cA) (c0 := c0) (kA := kA') (k0 := k0') (cc := cc) hA' (by rw [eA]; exact hAi) h0' (by rw [e0]; exact h0i) hx hy hlim hx4 hy4 r1 r2 fun d' acts' => ?_
  rw [mu_top]
  simp only [wp_bind', W.mark, W.pushRef, State.topJava?_setTop' _ XF.here.top, Option.some.injEq, exists_eq_left', State.setTop_setTop, State.heap_setTop]
  intro acts2
  simp [jvm, XF.here.top]
  exact ht
theorem s_multi (X : ri_X p s m args c cc nL Ts own D ka sa base) {ix : Nat} (hcl : Cond.classLink own ix "[[I" ∈ Ts) (harr : Cond.arrayClass .int ∈ Ts) (hd : decode cc (pf i) = .ok (.multianewarray ix 2, 4)) (hn : pf n = pf i + 4) : ri_snd (ri_W p l e R s m args below meth c D ka sa base nL Q pf) i (i_mul2 n 3 R.cells R.slots) := by
  intro k hk U V L st h hf
  unfold i_mul2 at hf
  split at hf
  · rename_i y x r
    obtain ⟨hx, hy, hf⟩ := hf
    replace hf := ri_bif hf; obtain ⟨hB, hf⟩ := hf
    replace hB := ri_and hB; obtain ⟨h0, hB⟩ := hB
    replace hB := ri_and hB; obtain ⟨h1, hB⟩ := hB
    obtain ⟨h2, h3⟩ := ri_and hB
    have h0 := Nat.le_of_ble_eq_true h0
    have h1 := Nat.le_of_ble_eq_true h1
    have h2 := Nat.le_of_ble_eq_true h2
    have h3 := Nat.le_of_ble_eq_true h3
    intro H locs ls hH hS hl
    intro S hT XS
    obtain ⟨co, cA, kA, hco, hkA, hkAi, hfA⟩ := mu_over (s := s) X.2.2.2.2.2.2.2.1.2
    obtain ⟨c0, k0, cc0, hfC, hk0, hk0i⟩ := Cond.arrayClass_spec (X.2.2.2.2.1 _ harr)
    obtain rfl : co = c0 := Option.some.inj (hco.symm.trans hfC)
    have hka : cA = ka 3 := Option.some.inj (hfA.symm.trans (X.2.2.2.2.2.1.2 3 _ (ri_tys_get (k := 3) rfl)).2)
    have hkb : co = ka 0 := Option.some.inj (hfC.symm.trans (X.2.2.2.2.2.1.2 0 _ (ri_tys_get (k := 0) rfl)).2)
    subst hka hkb
    obtain ⟨vm₁, hwm, step⟩ := mu_step (own := own) (ix := ix) (g := F0 m (pf i) ls (.int y :: .int x :: r.map (ri_v sa base))) (x := x) (y := y) (rest := r.map (ri_v sa base)) XS X.1 X.2.2.2.1 (X.2.2.2.2.1 _ hcl) hfA hkA hkAi hk0 hk0i rfl (by rw [X.2.1]; exact hd) rfl hx hy h0 h1 h2 h3
    have X1 := mu_stand (XS.noted hwm) (ka 3) (ka 0) x.toNatClampNeg y.toNatClampNeg x.toNatClampNeg
    have hsz : (S.setVm vm₁).heap.size = base + h.length := by
      show S.heap.size = _
      rw [hT]; exact hH.2
    obtain ⟨⟨f1, -, -⟩, f2, f4, f3⟩ := mu_is (S.setVm vm₁) (ka 3) (ka 0) x.toNatClampNeg y.toNatClampNeg x.toNatClampNeg
    rw [hsz] at f1 f2
    have hle : s.heap.size ≤ base + h.length := by rw [← hH.2]; exact hS.1
    have hHn : ri_H D ka sa base (h ++ (.inl (3, x.toNatClampNeg, .inr (fun j => bif Nat.blt j x.toNatClampNeg then some (16 + h.length + 1 + j) else none)) :: List.replicate x.toNatClampNeg (.inl (0, y.toNatClampNeg, .inl (fun _ => 0))))) (mu_s (S.setVm vm₁) (ka 3) (ka 0) x.toNatClampNeg y.toNatClampNeg x.toNatClampNeg).heap := by
      refine ⟨fun q w hq => ?_, ?_⟩
      · rw [ri_w, List.getElem?_mapIdx, Option.map_eq_some_iff] at hq
        obtain ⟨ec, hec, rfl⟩ := hq
        rcases Nat.lt_trichotomy q h.length with hlt | heq | hgt
        · rw [List.getElem?_append_left hlt] at hec
          refine (hH.1 q _ (ri_w_get hec)).kept ?_
          rw [f4 (base + q) (by rw [hsz]; exact Nat.add_lt_add_left hlt base)]
          show S.heap[base + q]? = _
          rw [hT]
        · rw [heq, List.getElem?_append_right (Nat.le_refl _), Nat.sub_self] at hec
          cases hec
          rw [heq]
          show _ = some (vp_cell (ka 3) (x.toNatClampNeg, .inr (.inr (.inr (.inr (fun j => (bif Nat.blt j x.toNatClampNeg then some (16 + h.length + 1 + j) else none).map (ri_ad sa base)))))))
          rw [f2, vp_cell_q]
          refine congrArg some (congrArg (arrV (ka 3) x.toNatClampNeg) (funext fun j => ?_))
          by_cases hj : j < x.toNatClampNeg
          · rw [mu_f, if_pos hj, show Nat.blt j x.toNatClampNeg = true from Nat.ble_eq_true_of_le hj]
            show _ = va_rf (some (ri_ad sa base (16 + h.length + 1 + j)))
            rw [show 16 + h.length + 1 + j = 16 + (h.length + 1 + j) by omega, ri_ad_new]
            show Value.ref (base + h.length + 1 + j) = Value.ref (base + (h.length + 1 + j))
            rw [show base + h.length + 1 + j = base + (h.length + 1 + j) by omega]
          · have hbf : Nat.blt j x.toNatClampNeg = false := Bool.eq_false_iff.mpr (fun q => hj (Nat.le_of_ble_eq_true q))
            rw [mu_f, if_neg hj, hbf]; rfl
        · obtain ⟨j, hj⟩ : ∃ j, q = h.length + 1 + j := ⟨q - h.length - 1, by omega⟩
          subst hj
          rw [List.getElem?_append_right (by omega), show h.length + 1 + j - h.length = j + 1 by omega, List.getElem?_cons_succ] at hec
          obtain ⟨hjl, hje⟩ := List.getElem?_eq_some_iff.mp hec
          rw [List.length_replicate] at hjl
          rw [List.getElem_replicate] at hje
          subst hje
          show _ = some (vp_cell (ka 0) (y.toNatClampNeg, .inl (fun _ => 0)))
          rw [vp_cell_i]
          have := f3 j hjl
          rw [hsz] at this
          rw [show base + (h.length + 1 + j) = base + h.length + 1 + j by omega]
          exact this
      · rw [f1, List.length_append, List.length_cons, List.length_replicate]; omega
    have hSn : va_S (fun q => base ≤ q) s.heap (mu_s (S.setVm vm₁) (ka 3) (ka 0) x.toNatClampNeg y.toNatClampNeg x.toNatClampNeg).heap (locs ++ (List.range x.toNatClampNeg).map fun j => ⟨S.heap.size, j⟩) := by
      refine ⟨?_, fun q h1 h2 => ?_, fun lo hlo => ?_⟩
      · rw [f1]
        exact Nat.le_trans hle (by omega)
      · rw [f4 q (by rw [hsz]; exact Nat.lt_of_lt_of_le h1 hle)]
        show S.heap[q]? = _
        rw [hT]; exact hS.2.1 q h1 h2
      · rcases List.mem_append.mp hlo with hlo | hlo
        · exact hS.2.2 lo hlo
        · obtain ⟨j, -, rfl⟩ := List.mem_map.mp hlo
          show base ≤ S.heap.size
          rw [hT, hH.2]; omega
    have hw := hk _ _ _ _ _ _ hf _ _ ls hHn hSn hl
    rw [hn] at hw
    obtain ⟨t', a, b⟩ := hw _ rfl X1
    refine ⟨t', step t' ?_, b⟩
    have er : S.heap.size = ri_ad sa base (16 + h.length) := by rw [ri_ad_new, hT, hH.2]
    rw [er]
    exact a
  · exact hf.elim
end RIM
