/-! ends, calls, and a method's contract out of its list -/
def ri_Qc (D : va_G) (ka : Nat → ClassId) (sa : Nat → Nat) (base : Nat) (Po : ri_O) : Array Value → State → Outcome → State → Prop := fun _ st oc t =>
  (∃ (r : Option Value) (h' : List ri_C), Po r h' ∧ oc = .returned (r.map (ri_v sa base)) ∧ ri_H D ka sa base h' t.heap) ∧ va_F (fun q => base ≤ q) st t
def ri_Pc (D : va_G) (ka : Nat → ClassId) (sa : Nat → Nat) (base : Nat) (av : List Value) (h : List ri_C) : Array Value → State → Prop := fun v U =>
  v = (av.map (ri_v sa base)).toArray ∧ ri_env D ka sa base U ∧ ri_H D ka sa base h U.heap
/-- method y, called with these values in this heap, returns, and Po holds of its answer and of the heap behind it; it makes at most mc cells of ms slots -/
def ri_Ev (l : Launch) (y : MethodName) (ws : List Cond) (rm : Room) (mc ms : Nat) (av : List Value) (h : List ri_C) (Po : ri_O) : Prop :=
  ∀ (D : va_G) (ka : Nat → ClassId) (sa : Nat → Nat) (base : Nat), Met l y ws rm (ri_Pc D ka sa base av h) (ri_Qc D ka sa base Po) mc ms (fun q => base ≤ q)
def ri_isN (w : Cond) : Bool := match w with
  | .fieldLinkNest .. => true
  | .methodLinkNest .. => true
  | _ => false
theorem ri_nw_warm {w : Cond} {s U : State} (hw : ri_isN w = true) (hW : s.WarmedH U.vm) (h : va_Nw w s) : va_Nw w U := by
  cases w <;> first | (cases hw; done) | exact va_Nw.warmF hW h | exact va_Nw.warmM hW h
theorem ri_isN_tab {w : Cond} (hw : ri_isN w = true) : w.onTables = true := by
  cases w <;> first | (cases hw; done) | rfl
theorem ri_env_warm {D : va_G} {ka : Nat → ClassId} {sa : Nat → Nat} {base : Nat} {s U : State} (hNW : ∀ w ∈ ri_NW, ri_isN w = true) (h : ri_env D ka sa base s) (hW : s.WarmedH U.vm) {locs : List Loc} (hS : va_S (fun q => base ≤ q) s.heap U.heap locs) : ri_env D ka sa base U := by
  obtain ⟨h1, h2, h3, h4, h5⟩ := h
  refine ⟨h1.moved hW.alike, fun w hw => ri_nw_warm (hNW w hw) hW (h2 w hw), ⟨fun C hC => (h3.1 C hC).moved hW.alike, h3.2.moved hW.alike⟩, fun j t ht => ?_, Nat.le_trans h5 hS.1⟩
  obtain ⟨a, b⟩ := h4 j t ht
  exact ⟨(a.moved hW.alike).kept (fun q hq hA => hS.2.1 q hq hA), (b.moved hW.alike).kept (fun q hq hA => hS.2.1 q hq hA)⟩
theorem ri_blind {D : va_G} {ka : Nat → ClassId} {sa : Nat → Nat} {base : Nat} {av : List Value} {h : List ri_C} (hNW : ∀ w ∈ ri_NW, ri_isN w = true) : FrameBlind (ri_Pc D ka sa base av h) := by
  intro a U g mk q
  obtain ⟨q0, ⟨h1, h2, h3, h4, h5⟩, qH⟩ := q
  refine ⟨q0, ⟨h1.moved (u := U) (U := U.calling g mk a) (Vm.Alike.refl U.vm), fun w hw => va_Nw.same (ri_isN_tab (hNW w hw)) (u := U) (U := U.calling g mk a) rfl (h2 w hw), ⟨fun C hC => (h3.1 C hC).moved (u := U) (U := U.calling g mk a) (Vm.Alike.refl U.vm), h3.2.moved (u := U) (U := U.calling g mk a) (Vm.Alike.refl U.vm)⟩, fun j t ht => ?_, h5⟩, qH⟩
  obtain ⟨x, y⟩ := h4 j t ht
  exact ⟨x.moved (u := U) (U := U.calling g mk a) (Vm.Alike.refl U.vm), y.moved (u := U) (U := U.calling g mk a) (Vm.Alike.refl U.vm)⟩
section RIU
variable {p : Program} {l : Launch} {e : Env} {R : Room} {s : State} {m : MethodId} {args : Array Value} {below : List Frame} {meth : Method} {c : Code} {Q : State → Prop} {cc : ByteArray} {nL : Nat} {Ts : List Cond} {own : String} {D : va_G} {ka : Nat → ClassId} {sa : Nat → Nat} {base : Nat} {pf : Nat → Nat} {i n t : Nat}

theorem s_iret (X : ri_X p s m args c cc nL Ts own D ka sa base) {Po : ri_O} {mc ms : Nat} (hr : meth.sig.returnType = some .int) (hlocks : meth.locks = false) (hd : decode cc (pf i) = .ok (.ireturn, 1)) : ri_snd (ri_W p l e R s m args below meth c D ka sa base nL (MQ below (ri_Qc D ka sa base Po) args s mc ms (fun q => base ≤ q)) pf) i (i_ret Po mc ms) := by
  intro k hk U V L st h hf
  unfold i_ret at hf
  split at hf
  ·
    rename_i v
    replace hf := ri_bif hf; obtain ⟨hB, hf⟩ := hf
    obtain ⟨hU, hV⟩ := ri_and hB
    intro H locs ls hH hS hl
    have hf : Po _ h := hf
    refine W.widen (Nat.le_of_ble_eq_true hU) (Nat.le_of_ble_eq_true hV) ?_
    exact W.iret X.1 X.2.1 hr (fun t ht hW => ⟨⟨some (.int v), h, hf, rfl, by rw [ht]; exact hH⟩, hS.F ht⟩) hS.2.2 hd hlocks
  · exact hf.elim
theorem s_zret (X : ri_X p s m args c cc nL Ts own D ka sa base) {Po : ri_O} {mc ms : Nat} (hr : meth.sig.returnType = some .boolean) (hlocks : meth.locks = false) (hd : decode cc (pf i) = .ok (.ireturn, 1)) : ri_snd (ri_W p l e R s m args below meth c D ka sa base nL (MQ below (ri_Qc D ka sa base Po) args s mc ms (fun q => base ≤ q)) pf) i (i_zret Po mc ms) := by
  intro k hk U V L st h hf
  unfold i_zret at hf
  split at hf
  ·
    rename_i v
    replace hf := ri_bif hf; obtain ⟨hB, hf⟩ := hf
    obtain ⟨hU, hV⟩ := ri_and hB
    intro H locs ls hH hS hl
    obtain ⟨hz, hf⟩ := hf
    refine W.widen (Nat.le_of_ble_eq_true hU) (Nat.le_of_ble_eq_true hV) ?_
    exact W.zret X.1 X.2.1 hr hz (fun t ht hW => ⟨⟨some (.int v), h, hf, rfl, by rw [ht]; exact hH⟩, hS.F ht⟩) hS.2.2 hd hlocks
  · exact hf.elim
theorem s_vret (X : ri_X p s m args c cc nL Ts own D ka sa base) {Po : ri_O} {mc ms : Nat} (hr : meth.sig.returnType = none) (hlocks : meth.locks = false) (hd : decode cc (pf i) = .ok (.return_, 1)) : ri_snd (ri_W p l e R s m args below meth c D ka sa base nL (MQ below (ri_Qc D ka sa base Po) args s mc ms (fun q => base ≤ q)) pf) i (i_vret Po mc ms) := by
  intro k hk U V L st h hf
  unfold i_vret at hf
  split at hf
  ·
    replace hf := ri_bif hf; obtain ⟨hB, hf⟩ := hf
    obtain ⟨hU, hV⟩ := ri_and hB
    intro H locs ls hH hS hl
    have hf : Po _ h := hf
    refine W.widen (Nat.le_of_ble_eq_true hU) (Nat.le_of_ble_eq_true hV) ?_
    exact W.vret X.1 X.2.1 hr (fun t ht hW => ⟨⟨none, h, hf, rfl, by rw [ht]; exact hH⟩, hS.F ht⟩) hS.2.2 hd hlocks
  · exact hf.elim
theorem s_aret (X : ri_X p s m args c cc nL Ts own D ka sa base) {Po : ri_O} {mc ms : Nat} {rt : FieldType} (hr : meth.sig.returnType = some rt) (hrt : (∃ n, rt = .object n) ∨ ∃ t, rt = .array t) (hlocks : meth.locks = false) (hd : decode cc (pf i) = .ok (.areturn, 1)) : ri_snd (ri_W p l e R s m args below meth c D ka sa base nL (MQ below (ri_Qc D ka sa base Po) args s mc ms (fun q => base ≤ q)) pf) i (i_aret Po mc ms) := by
  intro k hk U V L st h hf
  unfold i_aret at hf
  split at hf
  · rename_i q
    replace hf := ri_bif hf; obtain ⟨hB, hf⟩ := hf
    obtain ⟨hU, hV⟩ := ri_and hB
    intro H locs ls hH hS hl
    have hf : Po _ h := hf
    refine W.widen (Nat.le_of_ble_eq_true hU) (Nat.le_of_ble_eq_true hV) ?_
    exact W.aret X.1 X.2.1 hr hrt (Or.inr ⟨_, rfl⟩) (fun t ht hW => ⟨⟨some (.ref q), h, hf, rfl, by rw [ht]; exact hH⟩, hS.F ht⟩) hS.2.2 hd hlocks
  · exact hf.elim
/-- behind a call -/
theorem ri_call_go {Po : ri_O} {mc ms pc U V : Nat} {ls : Array Slot} {st0 rest : List Value} {H : Heap} {locs : List Loc} {av : Array Value} {k : ri_K} {L : ri_L} (hk : ∀ j U V L st h, k j U V L st h → ri_W p l e R s m args below meth c D ka sa base nL Q pf j U V L st h) (hrun : va_Run p l e R s m args below meth c H locs U V mc ms (F0 m pc ls st0) (rest.map (ri_v sa base)) (ri_Qc D ka sa base Po av) (fun q => base ≤ q)) (hS : va_S (fun q => base ≤ q) s.heap H locs) (hl : ri_l sa base ls nL L) (hn : pf n = pc + 3) (hgo : ∀ r h', Po r h' → k n (U + mc) (V + ms) L (r.toList ++ rest) h') : W p l e R s m args below meth c H locs U V Q (F0 m pc ls st0) := by
  intro T hT X0
  obtain ⟨v, st₀, t, T', LL, h0, X', hL, e1, e2, ⟨⟨r, h', hPo, hv, hH'⟩, hz, hk'⟩, st⟩ := hrun T hT X0
  cases hv
  rw [h0] at hz hk'
  have hw := hk _ _ _ _ _ _ (hgo r h' hPo) T'.heap (locs ++ LL) ls (by rw [e1]; exact hH') ⟨Nat.le_trans hS.1 (by rw [e1]; exact hz), fun q h1 h2 => by rw [e1, hk' q (Nat.lt_of_lt_of_le h1 hS.1) h2]; exact hS.2.1 q h1 h2, fun q hq => by
      rcases List.mem_append.mp hq with h | h
      · exact hS.2.2 q h
      · exact hL q h⟩ hl
  rw [hn, List.map_append] at hw
  obtain ⟨t2, a1, b1⟩ := hw T' rfl X'
  refine ⟨t2, st t2 ?_, b1⟩
  cases r <;> exact a1
theorem ri_pre (hNW : ∀ w ∈ ri_NW, ri_isN w = true) (X : ri_X p s m args c cc nL Ts own D ka sa base) {av : List Value} {h : List ri_C} {H : Heap} {locs : List Loc} (hH : ri_H D ka sa base h H) (hS : va_S (fun q => base ≤ q) s.heap H locs) : PreS s H (ri_Pc D ka sa base av h) (av.map (ri_v sa base)) := by
  refine ⟨ri_blind hNW, fun U hU hW => ⟨rfl, ri_env_warm hNW X.2.2.2.2.2 hW (locs := locs) (by rw [hU]; exact hS), by rw [hU]; exact hH⟩⟩
theorem ri_room {st : List Value} {pc : Nat} {ls : Array Slot} {st0 : List Value} (h : (st.map Value.category).sum ≤ 8) : 2 * (F0 m pc ls st0).monitorRoom + ((st.map (ri_v sa base)).map fun v => v.category).sum ≤ 8 := by
  refine lv_room ?_
  rw [List.map_map]
  have e : ((fun v : Value => v.category) ∘ ri_v sa base) = Value.category := by funext v; exact ri_v_cat sa base v
  rw [e]
  exact h
theorem ri_split {na : Nat} {st : List Value} (f : Value → Value) : st.map f = (((st.take na).reverse).map f).reverse ++ (st.drop na).map f := by
  rw [← List.map_reverse, List.reverse_reverse, ← List.map_append, List.take_append_drop]

theorem s_callS (hNW : ∀ w ∈ ri_NW, ri_isN w = true) {rm rm2 : Room} {y : MethodName} {bytes : ByteArray} {maxL mc ms na ix : Nat} {ret : Option FieldType} {ws : List Cond} (X : ri_X p s m args c cc nL Ts own D ka sa base) (cw : CallB rm s args own ix y bytes maxL ret ws rm2 mc ms na ∧ (Cond.static y).before args s = true) (hd : decode cc (pf i) = .ok (.invokestatic ix, 3)) (hn : pf n = pf i + 3) : ri_snd (ri_W p l e rm s m args below meth c D ka sa base nL Q pf) i (i_call n na (ri_Ev l y ws rm2 mc ms) mc ms rm.cells rm.slots) := by
  intro k hk U V L st h hf
  unfold i_call at hf
  replace hf := ri_bif hf; obtain ⟨hB, hf⟩ := hf
  replace hB := ri_and hB; obtain ⟨h1, hB⟩ := hB
  replace hB := ri_and hB; obtain ⟨h2, hB⟩ := hB
  obtain ⟨h3, h4⟩ := ri_and hB
  obtain ⟨Po, hE, hgo⟩ := hf
  intro H locs ls hH hS hl
  rw [ri_split (na := na) (st := st) (ri_v sa base)]
  refine ri_call_go (n := n) (Po := Po) hk (va_runS (As := ((st.take na).reverse).map (ri_v sa base)) (rest := (st.drop na).map (ri_v sa base)) ⟨X.1, X.2.1, X.2.2.1, X.2.2.2.1, X.2.2.2.2.1⟩ (hE D ka sa base) cw (ri_pre hNW X hH hS) rfl (by have := Nat.le_of_ble_eq_true h3; simp; omega) hl.1 rfl (ri_room (Nat.le_of_ble_eq_true h4)) hd ⟨Nat.le_of_ble_eq_true h1, Nat.le_of_ble_eq_true h2⟩) hS hl hn hgo
theorem s_callSN (hNW : ∀ w ∈ ri_NW, ri_isN w = true) {rm rm2 : Room} {y : MethodName} {bytes : ByteArray} {maxL mc ms na ix : Nat} {ret : Option FieldType} {ws : List Cond} {host : String} (X : ri_X p s m args c cc nL Ts own D ka sa base) (cw : va_CN rm s args own ix y host bytes maxL ret ws rm2 mc ms na ∧ (Cond.static y).before args s = true ∧ True) (hd : decode cc (pf i) = .ok (.invokestatic ix, 3)) (hn : pf n = pf i + 3) : ri_snd (ri_W p l e rm s m args below meth c D ka sa base nL Q pf) i (i_call n na (ri_Ev l y ws rm2 mc ms) mc ms rm.cells rm.slots) := by
  intro k hk U V L st h hf
  unfold i_call at hf
  replace hf := ri_bif hf; obtain ⟨hB, hf⟩ := hf
  replace hB := ri_and hB; obtain ⟨h1, hB⟩ := hB
  replace hB := ri_and hB; obtain ⟨h2, hB⟩ := hB
  obtain ⟨h3, h4⟩ := ri_and hB
  obtain ⟨Po, hE, hgo⟩ := hf
  intro H locs ls hH hS hl
  rw [ri_split (na := na) (st := st) (ri_v sa base)]
  refine ri_call_go (n := n) (Po := Po) hk (va_runSN (As := ((st.take na).reverse).map (ri_v sa base)) (rest := (st.drop na).map (ri_v sa base)) ⟨X.1, X.2.1, X.2.2.1, X.2.2.2.1, X.2.2.2.2.1⟩ (hE D ka sa base) cw (ri_pre hNW X hH hS) rfl (by have := Nat.le_of_ble_eq_true h3; simp; omega) hl.1 rfl (ri_room (Nat.le_of_ble_eq_true h4)) hd ⟨Nat.le_of_ble_eq_true h1, Nat.le_of_ble_eq_true h2⟩) hS hl hn hgo
theorem s_callV (hNW : ∀ w ∈ ri_NW, ri_isN w = true) {rm rm2 : Room} {y : MethodName} {bytes : ByteArray} {maxL mc ms na ix ci N : Nat} {ret : Option FieldType} {ws : List Cond} {C : String} {Tt : u_T} (X : ri_X p s m args c cc nL Ts own D ka sa base) (hci : ri_cl[ci]? = some (C, Tt, N)) (cw : CallW rm s args own C ix y bytes maxL ret ws rm2 mc ms na) (hd : decode cc (pf i) = .ok (.invokevirtual ix, 3)) (hn : pf n = pf i + 3) : ri_snd (ri_W p l e rm s m args below meth c D ka sa base nL Q pf) i (i_callV n (na + 1) ci (ri_Ev l y ws rm2 mc ms) mc ms rm.cells rm.slots) := by
  intro k hk U V L st h hf
  unfold i_callV at hf
  split at hf
  · rename_i q as hspl
    split at hf
    · rename_i c' fs hat
      replace hf := ri_bif hf; obtain ⟨hB, hf⟩ := hf
      replace hB := ri_and hB; obtain ⟨hq, hB⟩ := hB
      replace hB := ri_and hB; obtain ⟨hb, hB⟩ := hB
      replace hB := ri_and hB; obtain ⟨h1, hB⟩ := hB
      replace hB := ri_and hB; obtain ⟨h2, hB⟩ := hB
      obtain ⟨h3, h4⟩ := ri_and hB
      have hcc : c' = ci := Nat.eq_of_beq_eq_true hb
      subst hcc
      obtain ⟨Po, hE, hgo⟩ := hf
      rw [ri_at_hi hq] at hat
      intro H locs ls hH hS hl
      have hstk := ri_split (na := na + 1) (st := st) (ri_v sa base)
      rw [hspl] at hstk
      have hlen : as.length = na := by
        have e1 := congrArg List.length hspl
        have e2 := Nat.le_of_ble_eq_true h3
        simp at e1
        omega
      have hstk : st.map (ri_v sa base) = (as.map (ri_v sa base)).reverse ++ .ref (base + (q - 16)) :: (st.drop (na + 1)).map (ri_v sa base) := by
        rw [hstk, ← ri_ad_hi (sa := sa) (base := base) hq]
        simp [ri_v]
      rw [hstk]
      have hargs : (Value.ref q :: as).map (ri_v sa base) = .ref (base + (q - 16)) :: as.map (ri_v sa base) := by
        rw [← ri_ad_hi (sa := sa) (base := base) hq]; rfl
      have hPre : PreS s H (ri_Pc D ka sa base (.ref q :: as) h) (.ref (base + (q - 16)) :: as.map (ri_v sa base)) := by
        have hp := ri_pre hNW X (av := .ref q :: as) hH hS
        rw [hargs] at hp
        exact hp
      have hrun := va_runV (b := base + (q - 16)) (As := as.map (ri_v sa base)) (rest := (st.drop (na + 1)).map (ri_v sa base)) (g := F0 m (pf i) ls ((as.map (ri_v sa base)).reverse ++ .ref (base + (q - 16)) :: (st.drop (na + 1)).map (ri_v sa base))) ⟨X.1, X.2.1, X.2.2.1, X.2.2.2.1, X.2.2.2.2.1⟩ (hE D ka sa base) cw (⟨ri_blind hNW, va_recv X.2.2.2.2.2.1 hH.1 (ci := c') (q0 := q - 16) hci (ri_w_get hat), hPre.2⟩ : PreV s H C (base + (q - 16)) (ri_Pc D ka sa base (.ref q :: as) h) (as.map (ri_v sa base))) rfl (by simpa using hlen) hl.1 rfl (ri_room (Nat.le_of_ble_eq_true h4)) hd ⟨Nat.le_of_ble_eq_true h1, Nat.le_of_ble_eq_true h2⟩ (p := p) (l := l) (e := e) (below := below) (meth := meth) (locs := locs) (cells := U) (slots := V) (H := H)
      exact ri_call_go (n := n) (Po := Po) hk hrun hS hl hn hgo
    · exact hf.elim
  · exact hf.elim
theorem s_callVN (hNW : ∀ w ∈ ri_NW, ri_isN w = true) {rm rm2 : Room} {y : MethodName} {bytes : ByteArray} {maxL mc ms na ix ci N : Nat} {ret : Option FieldType} {ws : List Cond} {C : String} {Tt : u_T} {host : String} (X : ri_X p s m args c cc nL Ts own D ka sa base) (hci : ri_cl[ci]? = some (C, Tt, N)) (cw : va_CN rm s args own ix y host bytes maxL ret ws rm2 mc ms na ∧ (Cond.instanceMethod y).before args s = true ∧ (Cond.selects C y y).before args s = true) (hd : decode cc (pf i) = .ok (.invokevirtual ix, 3)) (hn : pf n = pf i + 3) : ri_snd (ri_W p l e rm s m args below meth c D ka sa base nL Q pf) i (i_callV n (na + 1) ci (ri_Ev l y ws rm2 mc ms) mc ms rm.cells rm.slots) := by
  intro k hk U V L st h hf
  unfold i_callV at hf
  split at hf
  · rename_i q as hspl
    split at hf
    · rename_i c' fs hat
      replace hf := ri_bif hf; obtain ⟨hB, hf⟩ := hf
      replace hB := ri_and hB; obtain ⟨hq, hB⟩ := hB
      replace hB := ri_and hB; obtain ⟨hb, hB⟩ := hB
      replace hB := ri_and hB; obtain ⟨h1, hB⟩ := hB
      replace hB := ri_and hB; obtain ⟨h2, hB⟩ := hB
      obtain ⟨h3, h4⟩ := ri_and hB
      have hcc : c' = ci := Nat.eq_of_beq_eq_true hb
      subst hcc
      obtain ⟨Po, hE, hgo⟩ := hf
      rw [ri_at_hi hq] at hat
      intro H locs ls hH hS hl
      have hstk := ri_split (na := na + 1) (st := st) (ri_v sa base)
      rw [hspl] at hstk
      have hlen : as.length = na := by
        have e1 := congrArg List.length hspl
        have e2 := Nat.le_of_ble_eq_true h3
        simp at e1
        omega
      have hstk : st.map (ri_v sa base) = (as.map (ri_v sa base)).reverse ++ .ref (base + (q - 16)) :: (st.drop (na + 1)).map (ri_v sa base) := by
        rw [hstk, ← ri_ad_hi (sa := sa) (base := base) hq]
        simp [ri_v]
      rw [hstk]
      have hargs : (Value.ref q :: as).map (ri_v sa base) = .ref (base + (q - 16)) :: as.map (ri_v sa base) := by
        rw [← ri_ad_hi (sa := sa) (base := base) hq]; rfl
      have hPre : PreS s H (ri_Pc D ka sa base (.ref q :: as) h) (.ref (base + (q - 16)) :: as.map (ri_v sa base)) := by
        have hp := ri_pre hNW X (av := .ref q :: as) hH hS
        rw [hargs] at hp
        exact hp
      have hrun := va_runVN (b := base + (q - 16)) (As := as.map (ri_v sa base)) (rest := (st.drop (na + 1)).map (ri_v sa base)) (g := F0 m (pf i) ls ((as.map (ri_v sa base)).reverse ++ .ref (base + (q - 16)) :: (st.drop (na + 1)).map (ri_v sa base))) ⟨X.1, X.2.1, X.2.2.1, X.2.2.2.1, X.2.2.2.2.1⟩ (hE D ka sa base) cw (⟨ri_blind hNW, va_recv X.2.2.2.2.2.1 hH.1 (ci := c') (q0 := q - 16) hci (ri_w_get hat), hPre.2⟩ : PreV s H C (base + (q - 16)) (ri_Pc D ka sa base (.ref q :: as) h) (as.map (ri_v sa base))) rfl (by simpa using hlen) hl.1 rfl (ri_room (Nat.le_of_ble_eq_true h4)) hd ⟨Nat.le_of_ble_eq_true h1, Nat.le_of_ble_eq_true h2⟩ (p := p) (l := l) (e := e) (below := below) (meth := meth) (locs := locs) (cells := U) (slots := V) (H := H)
      exact ri_call_go (n := n) (Po := Po) hk hrun hS hl hn hgo
    · exact hf.elim
  · exact hf.elim
theorem s_callI (hNW : ∀ w ∈ ri_NW, ri_isN w = true) {rm rm2 : Room} {y : MethodName} {bytes : ByteArray} {maxL mc ms na ix ci N : Nat} {ws : List Cond} {C : String} {Tt : u_T} (X : ri_X p s m args c cc nL Ts own D ka sa base) (hci : ri_cl[ci]? = some (C, Tt, N)) (cw : CallB rm s args own ix y bytes maxL none ws rm2 mc ms na ∧ y.name = "<init>" ∧ (Cond.instanceMethod y).before args s = true) (hd : decode cc (pf i) = .ok (.invokespecial ix, 3)) (hn : pf n = pf i + 3) : ri_snd (ri_W p l e rm s m args below meth c D ka sa base nL Q pf) i (i_callV n (na + 1) ci (ri_Ev l y ws rm2 mc ms) mc ms rm.cells rm.slots) := by
  intro k hk U V L st h hf
  unfold i_callV at hf
  split at hf
  · rename_i q as hspl
    split at hf
    · rename_i c' fs hat
      replace hf := ri_bif hf; obtain ⟨hB, hf⟩ := hf
      replace hB := ri_and hB; obtain ⟨hq, hB⟩ := hB
      replace hB := ri_and hB; obtain ⟨hb, hB⟩ := hB
      replace hB := ri_and hB; obtain ⟨h1, hB⟩ := hB
      replace hB := ri_and hB; obtain ⟨h2, hB⟩ := hB
      obtain ⟨h3, h4⟩ := ri_and hB
      have hcc : c' = ci := Nat.eq_of_beq_eq_true hb
      subst hcc
      obtain ⟨Po, hE, hgo⟩ := hf
      rw [ri_at_hi hq] at hat
      intro H locs ls hH hS hl
      have hstk := ri_split (na := na + 1) (st := st) (ri_v sa base)
      rw [hspl] at hstk
      have hlen : as.length = na := by
        have e1 := congrArg List.length hspl
        have e2 := Nat.le_of_ble_eq_true h3
        simp at e1
        omega
      have hstk : st.map (ri_v sa base) = (as.map (ri_v sa base)).reverse ++ .ref (base + (q - 16)) :: (st.drop (na + 1)).map (ri_v sa base) := by
        rw [hstk, ← ri_ad_hi (sa := sa) (base := base) hq]
        simp [ri_v]
      rw [hstk]
      have hargs : (Value.ref q :: as).map (ri_v sa base) = .ref (base + (q - 16)) :: as.map (ri_v sa base) := by
        rw [← ri_ad_hi (sa := sa) (base := base) hq]; rfl
      have hPre : PreS s H (ri_Pc D ka sa base (.ref q :: as) h) (.ref (base + (q - 16)) :: as.map (ri_v sa base)) := by
        have hp := ri_pre hNW X (av := .ref q :: as) hH hS
        rw [hargs] at hp
        exact hp
      have hrun := va_runI (b := base + (q - 16)) (As := as.map (ri_v sa base)) (rest := (st.drop (na + 1)).map (ri_v sa base)) (g := F0 m (pf i) ls ((as.map (ri_v sa base)).reverse ++ .ref (base + (q - 16)) :: (st.drop (na + 1)).map (ri_v sa base))) ⟨X.1, X.2.1, X.2.2.1, X.2.2.2.1, X.2.2.2.2.1⟩ (hE D ka sa base) cw hPre rfl (by simpa using hlen) hl.1 rfl (ri_room (Nat.le_of_ble_eq_true h4)) hd ⟨Nat.le_of_ble_eq_true h1, Nat.le_of_ble_eq_true h2⟩ (p := p) (l := l) (e := e) (below := below) (meth := meth) (locs := locs) (cells := U) (slots := V) (H := H)
      exact ri_call_go (n := n) (Po := Po) hk hrun hS hl hn hgo
    · exact hf.elim
  · exact hf.elim
theorem s_callIN (hNW : ∀ w ∈ ri_NW, ri_isN w = true) {rm rm2 : Room} {y : MethodName} {bytes : ByteArray} {maxL mc ms na ix ci N : Nat} {ws : List Cond} {C : String} {Tt : u_T} {host : String} (X : ri_X p s m args c cc nL Ts own D ka sa base) (hci : ri_cl[ci]? = some (C, Tt, N)) (cw : va_CN rm s args own ix y host bytes maxL none ws rm2 mc ms na ∧ y.name = "<init>" ∧ (Cond.instanceMethod y).before args s = true) (hd : decode cc (pf i) = .ok (.invokespecial ix, 3)) (hn : pf n = pf i + 3) : ri_snd (ri_W p l e rm s m args below meth c D ka sa base nL Q pf) i (i_callV n (na + 1) ci (ri_Ev l y ws rm2 mc ms) mc ms rm.cells rm.slots) := by
  intro k hk U V L st h hf
  unfold i_callV at hf
  split at hf
  · rename_i q as hspl
    split at hf
    · rename_i c' fs hat
      replace hf := ri_bif hf; obtain ⟨hB, hf⟩ := hf
      replace hB := ri_and hB; obtain ⟨hq, hB⟩ := hB
      replace hB := ri_and hB; obtain ⟨hb, hB⟩ := hB
      replace hB := ri_and hB; obtain ⟨h1, hB⟩ := hB
      replace hB := ri_and hB; obtain ⟨h2, hB⟩ := hB
      obtain ⟨h3, h4⟩ := ri_and hB
      have hcc : c' = ci := Nat.eq_of_beq_eq_true hb
      subst hcc
      obtain ⟨Po, hE, hgo⟩ := hf
      rw [ri_at_hi hq] at hat
      intro H locs ls hH hS hl
      have hstk := ri_split (na := na + 1) (st := st) (ri_v sa base)
      rw [hspl] at hstk
      have hlen : as.length = na := by
        have e1 := congrArg List.length hspl
        have e2 := Nat.le_of_ble_eq_true h3
        simp at e1
        omega
      have hstk : st.map (ri_v sa base) = (as.map (ri_v sa base)).reverse ++ .ref (base + (q - 16)) :: (st.drop (na + 1)).map (ri_v sa base) := by
        rw [hstk, ← ri_ad_hi (sa := sa) (base := base) hq]
        simp [ri_v]
      rw [hstk]
      have hargs : (Value.ref q :: as).map (ri_v sa base) = .ref (base + (q - 16)) :: as.map (ri_v sa base) := by
        rw [← ri_ad_hi (sa := sa) (base := base) hq]; rfl
      have hPre : PreS s H (ri_Pc D ka sa base (.ref q :: as) h) (.ref (base + (q - 16)) :: as.map (ri_v sa base)) := by
        have hp := ri_pre hNW X (av := .ref q :: as) hH hS
        rw [hargs] at hp
        exact hp
      have hrun := va_runIN (b := base + (q - 16)) (As := as.map (ri_v sa base)) (rest := (st.drop (na + 1)).map (ri_v sa base)) (g := F0 m (pf i) ls ((as.map (ri_v sa base)).reverse ++ .ref (base + (q - 16)) :: (st.drop (na + 1)).map (ri_v sa base))) ⟨X.1, X.2.1, X.2.2.1, X.2.2.2.1, X.2.2.2.2.1⟩ (hE D ka sa base) cw hPre rfl (by simpa using hlen) hl.1 rfl (ri_room (Nat.le_of_ble_eq_true h4)) hd ⟨Nat.le_of_ble_eq_true h1, Nat.le_of_ble_eq_true h2⟩ (p := p) (l := l) (e := e) (below := below) (meth := meth) (locs := locs) (cells := U) (slots := V) (H := H)
      exact ri_call_go (n := n) (Po := Po) hk hrun hS hl hn hgo
    · exact hf.elim
  · exact hf.elim
end RIU
theorem ri_args_in {f : Value → Value} (hf : ∀ v, (f v).category = v.category) : ∀ (av : List Value) (o j : Nat) (v : Value), av.all ri_cat1 = true → av[j]? = some v → (o + j, f v) ∈ lv_args o (av.map f)
  | [], _, _, _, _, h => by simp at h
  | a :: r, o, j, v, hc, h => by
    have hc2 := ri_and (a := ri_cat1 a) (b := r.all ri_cat1) hc
    have ha : ¬ (f a).category = 2 := by rw [hf, ri_cat1_ok hc2.1]; decide
    show _ ∈ (o, f a) :: lv_args (if (f a).category = 2 then o + 2 else o + 1) (r.map f)
    rw [if_neg ha]
    cases j with
    | zero => simp at h; subst h; exact List.mem_cons_self
    | succ j =>
      have h2 : r[j]? = some v := by simpa using h
      have := ri_args_in hf r (o + 1) j v hc2.2 h2
      rw [show o + (j + 1) = o + 1 + j by omega]
      exact List.mem_cons_of_mem _ this
theorem ri_sl_len {f : Value → Value} (hf : ∀ v, (f v).category = v.category) : ∀ (av : List Value), av.all ri_cat1 = true → (lg_sl (av.map f)).length = av.length
  | [], _ => rfl
  | a :: r, hc => by
    have hc2 := ri_and (a := ri_cat1 a) (b := r.all ri_cat1) hc
    have ha : ¬ (f a).category = 2 := by rw [hf, ri_cat1_ok hc2.1]; decide
    have ih := ri_sl_len hf r hc2.2
    simp only [lg_sl, List.map_cons, List.flatMap_cons, if_neg ha] at ih ⊢
    simp [ih]
theorem ri_ev {l : Launch} {y : MethodName} {ws ws' : List Cond} {rm : Room} {mc ms maxL : Nat} {cc : ByteArray} {ret : Option FieldType} {av : List Value} {h : List ri_C} {Po : ri_O} (tab : List ri_S) {pf : Nat → Nat} (hy : plainName y.cls = true) (hw : ws = Cond.code y cc maxL ret :: ws') (hav : av.all ri_cat1 = true) (hlen : av.length ≤ maxL) (h0 : pf 0 = 0)
    (hclo : ∀ (p : Program) (e : Env) (s : State) (m : MethodId) (args : Array Value) (below : List Frame) (meth : Method) (c : Code) (D : va_G) (ka : Nat → ClassId) (sa : Nat → Nat) (base : Nat), ri_X p s m args c cc maxL ws y.cls D ka sa base → meth.sig.returnType = ret → meth.locks = false → meth.name = y.name → ri_clo (ri_W p l e rm s m args below meth c D ka sa base maxL (MQ below (ri_Qc D ka sa base Po) args s mc ms (fun q => base ≤ q)) pf) tab)
    (hgo : ∀ J : ri_K, ri_clo J tab → J 0 0 0 (av.map some ++ List.replicate (maxL - av.length) none) [] h) : ri_Ev l y ws rm mc ms av h Po := by
  intro D ka sa base
  refine Met.ofW (cc := cc) (maxL := maxL) (ret := ret) hy hw ?_
  intro p e s m args below meth c s₁ B hml hv
  obtain ⟨rfl, henv, hH⟩ := hv
  have hts := atoms_spec (ws := ws) B.pre
  have X : ri_X p s m _ c cc maxL ws y.cls D ka sa base := ⟨B.exec, B.bytes, hml, findClass_of_methodNamed B.named, hts, henv⟩
  have hJ := hclo p e s m _ below meth c D ka sa base X B.returns B.notSynchronized (name_of_methodNamed B.named B.method).1
  have hl := lv_entry (av.map (ri_v sa base)) (n := maxL) (by rw [ri_sl_len (ri_v_cat sa base) av hav]; exact hlen)
  rw [lg_entry_eq]
  have hll : ri_l sa base (lg_sl (av.map (ri_v sa base)) ++ List.replicate (maxL - (lg_sl (av.map (ri_v sa base))).length) Slot.unset).toArray maxL (av.map some ++ List.replicate (maxL - av.length) none) := by
    refine ⟨hl.1, hl.2.1, fun j v hj => ?_⟩
    by_cases hjl : j < av.length
    · rw [List.getElem?_append_left (by simpa using hjl), List.getElem?_map] at hj
      cases hav2 : av[j]? with
      | none => rw [hav2] at hj; cases hj
      | some w =>
        rw [hav2] at hj
        cases hj
        have h1 := ri_args_in (ri_v_cat sa base) av 0 j v hav hav2
        rw [Nat.zero_add] at h1
        exact ⟨hl.2.2 _ h1, ri_cat1_ok (List.all_eq_true.mp hav v (List.mem_of_getElem? hav2))⟩
    · rw [List.getElem?_append_right (by simpa using Nat.le_of_not_lt hjl)] at hj
      obtain ⟨_, h2⟩ := List.getElem?_eq_some_iff.mp hj
      simp at h2
  have hg : ri_W p l e rm s m _ below meth c D ka sa base maxL _ pf 0 0 0 _ [] h := hgo _ hJ
  have hg := hg s.heap [] _ hH va_S.rf hll
  rw [h0] at hg
  exact hg
