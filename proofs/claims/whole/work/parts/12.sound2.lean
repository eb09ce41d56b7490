/-! fields, arrays, statics, new, switches, ends -/
theorem ri_at_hi {h : List ri_C} {q : Nat} (hq : Nat.ble 16 q = true) : ri_at h q = h[q - 16]? := by unfold ri_at; rw [hq]; rfl
theorem ri_at_lo {h : List ri_C} {q : Nat} (hq : Nat.ble 16 q = false) : ri_at h q = (ri_ST[q]?).map (fun t => .inl (0, t.2.2.2.1, .inl t.2.2.2.2)) := by unfold ri_at; rw [hq]; rfl
theorem ri_ad_hi {sa : Nat → Nat} {base q : Nat} (hq : Nat.ble 16 q = true) : ri_ad sa base q = base + (q - 16) := by unfold ri_ad; rw [hq]; rfl
theorem ri_ad_lo {sa : Nat → Nat} {base q : Nat} (hq : Nat.ble 16 q = false) : ri_ad sa base q = sa q := by unfold ri_ad; rw [hq]; rfl
theorem ri_rf {sa : Nat → Nat} {base : Nat} (r : Option Nat) : ri_v sa base (va_rf r) = va_rf (r.map (ri_ad sa base)) := by cases r <;> rfl
section RIT
variable {p : Program} {l : Launch} {e : Env} {R : Room} {s : State} {m : MethodId} {args : Array Value} {below : List Frame} {meth : Method} {c : Code} {Q : State → Prop} {cc : ByteArray} {nL : Nat} {Ts : List Cond} {own : String} {D : va_G} {ka : Nat → ClassId} {sa : Nat → Nat} {base : Nat} {pf : Nat → Nat} {i n t : Nat}

theorem s_get (X : ri_X p s m args c cc nL Ts own D ka sa base) {ci f ix N : Nat} {C : String} {T : u_T} (hc : ri_cl[ci]? = some (C, T, N)) (hin : ∀ w ∈ u_ws C T N, w ∈ Ts) (hfN : f < N) (hlink : Cond.fieldLink own ix (T f).1 (T f).2.1 (T f).2.2.1 ∈ Ts) (hd : decode cc (pf i) = .ok (.getfield ix, 3)) (hn : pf n = pf i + 3) : ri_snd (ri_W p l e R s m args below meth c D ka sa base nL Q pf) i (i_get n ci f) := by
  intro k hk U V L st h hf
  unfold i_get at hf
  split at hf
  · rename_i q r
    split at hf
    · rename_i c' fs hat
      replace hf := ri_bif hf; obtain ⟨hB, hf⟩ := hf
      obtain ⟨hq, hb⟩ := ri_and hB
      have hcc : c' = ci := Nat.eq_of_beq_eq_true hb
      subst hcc
      rw [ri_at_hi hq] at hat
      split at hf
      · rename_i v hv
        intro H locs ls hH hS hl
        have hw := hk _ _ _ _ _ _ hf H locs ls hH hS hl
        rw [hn] at hw
        show W p l e R s m args below meth c H locs U V Q (F0 m (pf i) ls (.ref (ri_ad sa base q) :: r.map (ri_v sa base)))
        rw [ri_ad_hi hq]
        exact va_get X.1 X.2.1 X.2.2.2.2.1 hin X.2.2.2.1 X.2.2.2.2.2.1 hH.1 (q - 16) (fs := fs.map (ri_v sa base)) (ri_w_get hat) hc f hfN (X.2.2.2.2.1 _ hlink) (fun _ z => z) (v := ri_v sa base v) (by simp [hv]) hd hw
      · exact hf.elim
    · exact hf.elim
  · exact hf.elim
theorem s_getN (X : ri_X p s m args c cc nL Ts own D ka sa base) {ci f ix N : Nat} {C : String} {T : u_T} (hc : ri_cl[ci]? = some (C, T, N)) (hin : ∀ w ∈ u_ws C T N, w ∈ Ts) (hfN : f < N) {host : String} (hlink : Cond.fieldLinkNest own ix (T f).1 (T f).2.1 (T f).2.2.1 host ∈ ri_NW) (hd : decode cc (pf i) = .ok (.getfield ix, 3)) (hn : pf n = pf i + 3) : ri_snd (ri_W p l e R s m args below meth c D ka sa base nL Q pf) i (i_get n ci f) := by
  intro k hk U V L st h hf
  unfold i_get at hf
  split at hf
  · rename_i q r
    split at hf
    · rename_i c' fs hat
      replace hf := ri_bif hf; obtain ⟨hB, hf⟩ := hf
      obtain ⟨hq, hb⟩ := ri_and hB
      have hcc : c' = ci := Nat.eq_of_beq_eq_true hb
      subst hcc
      rw [ri_at_hi hq] at hat
      split at hf
      · rename_i v hv
        intro H locs ls hH hS hl
        have hw := hk _ _ _ _ _ _ hf H locs ls hH hS hl
        rw [hn] at hw
        show W p l e R s m args below meth c H locs U V Q (F0 m (pf i) ls (.ref (ri_ad sa base q) :: r.map (ri_v sa base)))
        rw [ri_ad_hi hq]
        exact va_getN X.1 X.2.1 X.2.2.2.2.1 hin X.2.2.2.1 X.2.2.2.2.2.1 hH.1 (q - 16) (fs := fs.map (ri_v sa base)) (ri_w_get hat) hc f hfN (va_Nw.use rfl (X.2.2.2.2.2.2.1 _ hlink)) (fun _ z => z) (v := ri_v sa base v) (by simp [hv]) hd hw
      · exact hf.elim
    · exact hf.elim
  · exact hf.elim
theorem ri_put_core (X : ri_X p s m args c cc nL Ts own D ka sa base) {ci f N : Nat} {C : String} {T : u_T} (hc : ri_cl[ci]? = some (C, T, N)) (hin : ∀ w ∈ u_ws C T N, w ∈ Ts) (hfN : f < N) (ty0 : Nat → FieldType) (hty : ∀ k, k < N → parseFieldDescriptor (T k).2.2.1 = some (ty0 k)) (hnm : ∀ a, a < N → ∀ b, b < N → a ≠ b → (T a).2.1 ≠ (T b).2.1) {h : List ri_C} {j : Nat} {fs : List Value} {v : Value} (hat : h[j]? = some (.inr (ci, fs))) (hlen : f < fs.length) {H : Heap} (hH : ri_H D ka sa base h H) :
    ∃ (cf fi : Nat) (kf : Class) (fd : Field) (cell : Cell), s.fieldFound? (T f).1 (T f).2.1 (T f).2.2.1 = some (cf, kf, fi, fd) ∧ fd.isStatic = false ∧ H[base + j]? = some cell ∧ cell.cls = D.1 ci ∧ cell.vm = .none ∧ fd.slot < cell.slots.size ∧
      (∀ H' : Heap, H'[base + j]? = some (cell.setSlot fd.slot (ri_v sa base v)) → H'.size = H.size → (∀ q, q ≠ base + j → H'[q]? = H[q]?) → ri_H D ka sa base (h.set j (.inr (ci, fs.set f v))) H') := by
  have hap := va_apart (own := own) X.2.2.2.2.1 hin ty0 hty hnm X.2.2.2.2.2.1 hc
  have he := ri_w_get (sa := sa) (base := base) (ka := ka) hat
  obtain ⟨r, h1, cell, q1, q2, q3, q4⟩ := hH.1 j _ he
  have hr : r = (C, T, N) := Option.some.inj (h1.symm.trans hc)
  subst hr
  obtain ⟨hS, hfc, kC, hkC, hkind⟩ := X.2.2.2.2.2.1.1 ci _ hc
  obtain ⟨cf, kf, fi, fd, hi, hsl⟩ := hS f hfN
  have hst := (u_facts hfc hkC (u_lays X.2.2.2.2.1 hin hfN) hi).1
  refine ⟨cf, fi, kf, fd, cell, hi, hst, q1, q2, q3, by rw [hsl]; exact k2_hasslot (q4 f hfN), fun H' e1 e2 e3 => ?_⟩
  rw [hsl] at e1
  have hP1 := hH.1.set ri_w_D he (e := .inr (ci, (fs.map (ri_v sa base)).set f (ri_v sa base v))) ⟨_, hc, t_OB.to (V := updV (vp_V (fs.map (ri_v sa base))) f (ri_v sa base v)) ⟨_, e1, q2, q3, t_set q4 hap hfN (ri_v sa base v)⟩ (fun k _ => vp_updV_set (by simpa using hlen) (ri_v sa base v) k)⟩ e3
  refine ⟨?_, by rw [e2, List.length_set]; exact hH.2⟩
  rw [← ri_w_set]
  show va_P D ri_cl ((ri_w sa base ka h).set j (base + j, .inr (ci, (fs.set f v).map (ri_v sa base)))) H'
  rw [List.map_set]
  exact hP1
theorem s_put (X : ri_X p s m args c cc nL Ts own D ka sa base) {ci f ix N : Nat} {C : String} {T : u_T} (hc : ri_cl[ci]? = some (C, T, N)) (hin : ∀ w ∈ u_ws C T N, w ∈ Ts) (hfN : f < N) (ty0 : Nat → FieldType) (hty : ∀ k, k < N → parseFieldDescriptor (T k).2.2.1 = some (ty0 k)) (hnm : ∀ a, a < N → ∀ b, b < N → a ≠ b → (T a).2.1 ≠ (T b).2.1) (hfin : (T f).2.2.2 = false) {ok : Value → Bool} (hok : ∀ v, ok v = true → narrow (ty0 f) (ri_v sa base v) = ri_v sa base v ∧ fits (ty0 f) (ri_v sa base v) = true) (hlink : Cond.fieldLink own ix (T f).1 (T f).2.1 (T f).2.2.1 ∈ Ts) (hd : decode cc (pf i) = .ok (.putfield ix, 3)) (hn : pf n = pf i + 3) : ri_snd (ri_W p l e R s m args below meth c D ka sa base nL Q pf) i (i_put n ci f ok) := by
  intro k hk U V L st h hf
  unfold i_put at hf
  split at hf
  · rename_i v q r
    split at hf
    · rename_i c' fs hat
      replace hf := ri_bif hf; obtain ⟨hB, hf⟩ := hf
      replace hB := ri_and hB; obtain ⟨hv, hB⟩ := hB
      replace hB := ri_and hB; obtain ⟨hq, hB⟩ := hB
      obtain ⟨hb, hl9⟩ := ri_and hB
      have hcc : c' = ci := Nat.eq_of_beq_eq_true hb
      subst hcc
      rw [ri_at_hi hq] at hat
      intro H locs ls hH hS hl
      show W p l e R s m args below meth c H locs U V Q (F0 m (pf i) ls (ri_v sa base v :: .ref (ri_ad sa base q) :: r.map (ri_v sa base)))
      rw [ri_ad_hi hq]
      have hlen : f < fs.length := Nat.le_of_ble_eq_true hl9
      obtain ⟨cf, fi, kf, fd, cell, hi, hst, hcell, hcl, hvm, hlt, hgo⟩ := ri_put_core X hc hin hfN ty0 hty hnm (v := v) hat hlen hH
      obtain ⟨-, hfc, kC, hkC, hkind⟩ := X.2.2.2.2.2.1.1 c' _ hc
      have hlay := X.2.2.2.2.1 _ (hin _ (u_in_lay hfN))
      unfold u_lay at hlay
      rw [if_neg (by rw [hfin]; decide)] at hlay
      refine W.putK X.1 X.2.1 (f := fd) ⟨X.2.2.2.1, X.2.2.2.2.1 _ hlink, ⟨_, _, _, hi⟩, hst⟩ (by rw [hcl]; exact u_store hfc hkC hkind hlay hi (hty f hfN) (hok v hv).1 (hok v hv).2) hcell hvm hlt rfl rfl hd fun H' e1 e2 e3 => ?_
      have hw := hk _ _ _ _ _ _ hf H' _ ls (hgo H' e1 e2 e3) (hS.put (k := fd.slot) e2 e3 (show base ≤ base + (q - 16) by omega)) hl
      rw [hn] at hw
      exact hw
    · exact hf.elim
  · exact hf.elim
theorem s_putN (X : ri_X p s m args c cc nL Ts own D ka sa base) {ci f ix N : Nat} {C : String} {T : u_T} (hc : ri_cl[ci]? = some (C, T, N)) (hin : ∀ w ∈ u_ws C T N, w ∈ Ts) (hfN : f < N) (ty0 : Nat → FieldType) (hty : ∀ k, k < N → parseFieldDescriptor (T k).2.2.1 = some (ty0 k)) (hnm : ∀ a, a < N → ∀ b, b < N → a ≠ b → (T a).2.1 ≠ (T b).2.1) (hfin : (T f).2.2.2 = false) {ok : Value → Bool} (hok : ∀ v, ok v = true → narrow (ty0 f) (ri_v sa base v) = ri_v sa base v ∧ fits (ty0 f) (ri_v sa base v) = true) {host : String} (hlink : Cond.fieldLinkNest own ix (T f).1 (T f).2.1 (T f).2.2.1 host ∈ ri_NW) (hd : decode cc (pf i) = .ok (.putfield ix, 3)) (hn : pf n = pf i + 3) : ri_snd (ri_W p l e R s m args below meth c D ka sa base nL Q pf) i (i_put n ci f ok) := by
  intro k hk U V L st h hf
  unfold i_put at hf
  split at hf
  · rename_i v q r
    split at hf
    · rename_i c' fs hat
      replace hf := ri_bif hf; obtain ⟨hB, hf⟩ := hf
      replace hB := ri_and hB; obtain ⟨hv, hB⟩ := hB
      replace hB := ri_and hB; obtain ⟨hq, hB⟩ := hB
      obtain ⟨hb, hl9⟩ := ri_and hB
      have hcc : c' = ci := Nat.eq_of_beq_eq_true hb
      subst hcc
      rw [ri_at_hi hq] at hat
      intro H locs ls hH hS hl
      show W p l e R s m args below meth c H locs U V Q (F0 m (pf i) ls (ri_v sa base v :: .ref (ri_ad sa base q) :: r.map (ri_v sa base)))
      rw [ri_ad_hi hq]
      have hlen : f < fs.length := Nat.le_of_ble_eq_true hl9
      obtain ⟨cf, fi, kf, fd, cell, hi, hst, hcell, hcl, hvm, hlt, hgo⟩ := ri_put_core X hc hin hfN ty0 hty hnm (v := v) hat hlen hH
      obtain ⟨-, hfc, kC, hkC, hkind⟩ := X.2.2.2.2.2.1.1 c' _ hc
      have hlay := X.2.2.2.2.1 _ (hin _ (u_in_lay hfN))
      unfold u_lay at hlay
      rw [if_neg (by rw [hfin]; decide)] at hlay
      refine va_WputK X.1 X.2.1 (f := fd) X.2.2.2.1 (va_Nw.use rfl (X.2.2.2.2.2.2.1 _ hlink)) hi hst (by rw [hcl]; exact u_store hfc hkC hkind hlay hi (hty f hfN) (hok v hv).1 (hok v hv).2) hcell hvm hlt rfl rfl hd fun H' e1 e2 e3 => ?_
      have hw := hk _ _ _ _ _ _ hf H' _ ls (hgo H' e1 e2 e3) (hS.put (k := fd.slot) e2 e3 (show base ≤ base + (q - 16) by omega)) hl
      rw [hn] at hw
      exact hw
    · exact hf.elim
  · exact hf.elim
theorem s_putF (X : ri_X p s m args c cc nL Ts own D ka sa base) {ci f ix N : Nat} {C : String} {T : u_T} (hc : ri_cl[ci]? = some (C, T, N)) (hin : ∀ w ∈ u_ws C T N, w ∈ Ts) (hfN : f < N) (ty0 : Nat → FieldType) (hty : ∀ k, k < N → parseFieldDescriptor (T k).2.2.1 = some (ty0 k)) (hnm : ∀ a, a < N → ∀ b, b < N → a ≠ b → (T a).2.1 ≠ (T b).2.1) (hfin : (T f).2.2.2 = true) {ok : Value → Bool} (hok : ∀ v, ok v = true → narrow (ty0 f) (ri_v sa base v) = ri_v sa base v ∧ fits (ty0 f) (ri_v sa base v) = true) (hlink : Cond.fieldLink own ix (T f).1 (T f).2.1 (T f).2.2.1 ∈ Ts) (hinit : meth.name = "<init>") (hdecl : (T f).1 = own) (hd : decode cc (pf i) = .ok (.putfield ix, 3)) (hn : pf n = pf i + 3) : ri_snd (ri_W p l e R s m args below meth c D ka sa base nL Q pf) i (i_put n ci f ok) := by
  intro k hk U V L st h hf
  unfold i_put at hf
  split at hf
  · rename_i v q r
    split at hf
    · rename_i c' fs hat
      replace hf := ri_bif hf; obtain ⟨hB, hf⟩ := hf
      replace hB := ri_and hB; obtain ⟨hv, hB⟩ := hB
      replace hB := ri_and hB; obtain ⟨hq, hB⟩ := hB
      obtain ⟨hb, hl9⟩ := ri_and hB
      have hcc : c' = ci := Nat.eq_of_beq_eq_true hb
      subst hcc
      rw [ri_at_hi hq] at hat
      intro H locs ls hH hS hl
      show W p l e R s m args below meth c H locs U V Q (F0 m (pf i) ls (ri_v sa base v :: .ref (ri_ad sa base q) :: r.map (ri_v sa base)))
      rw [ri_ad_hi hq]
      have hlen : f < fs.length := Nat.le_of_ble_eq_true hl9
      obtain ⟨cf, fi, kf, fd, cell, hi, hst, hcell, hcl, hvm, hlt, hgo⟩ := ri_put_core X hc hin hfN ty0 hty hnm (v := v) hat hlen hH
      obtain ⟨-, hfc, kC, hkC, hkind⟩ := X.2.2.2.2.2.1.1 c' _ hc
      have hlay := X.2.2.2.2.1 _ (hin _ (u_in_lay hfN))
      unfold u_lay at hlay
      rw [if_pos hfin] at hlay
      have hcf : m.cls = cf := by
        obtain ⟨_, _, c2, _, _, _, -, -, hf2, -, -, -, hown2, -⟩ := Cond.laysFinal_spec hlay
        have e1 : c2 = cf := by have := hi.symm.trans hf2; simp at this; exact this.1.symm
        rw [hdecl] at hown2
        rw [← e1]; exact Option.some.inj (X.2.2.2.1.symm.trans hown2)
      refine W.putFinK X.1 X.2.1 X.2.2.2.1 (X.2.2.2.2.1 _ hlink) hi hst hcf hinit (by rw [hcl]; exact u_fits hfc hkC hkind (Or.inr hlay) hi (hty f hfN) (hok v hv).1 (hok v hv).2) hcell hvm hlt rfl rfl hd fun H' e1 e2 e3 => ?_
      have hw := hk _ _ _ _ _ _ hf H' _ ls (hgo H' e1 e2 e3) (hS.put (k := fd.slot) e2 e3 (show base ≤ base + (q - 16) by omega)) hl
      rw [hn] at hw
      exact hw
    · exact hf.elim
  · exact hf.elim
theorem s_gets (X : ri_X p s m args c cc nL Ts own D ka sa base) {q ix : Nat} {t : String × String × String × Nat × (Nat → Int32)} (ht : ri_ST[q]? = some t) (hq : Nat.ble 16 q = false) (hlink : Cond.fieldLink own ix t.1 t.2.1 t.2.2.1 ∈ Ts) (hd : decode cc (pf i) = .ok (.getstatic ix, 3)) (hn : pf n = pf i + 3) : ri_snd (ri_W p l e R s m args below meth c D ka sa base nL Q pf) i (i_gets n q) := by
  intro k hk U V L st h hf H locs ls hH hS hl
  have hw := hk _ _ _ _ _ _ hf H locs ls hH hS hl
  rw [hn] at hw
  have hw : W p l e R s m args below meth c H locs U V Q (F0 m (pf i + 3) ls (.ref (ri_ad sa base q) :: st.map (ri_v sa base))) := hw
  rw [ri_ad_lo hq] at hw
  exact va_gets X.1 X.2.1 (X.2.2.2.2.2.2.2.2.1 q t ht).1 hS X.2.2.2.1 (X.2.2.2.2.1 _ hlink) (fun _ z => z) hd hw
theorem s_iald (X : ri_X p s m args c cc nL Ts own D ka sa base) (hkt : ri_kt[0]? = some .int) (hd : decode cc (pf i) = .ok (.iaload, 1)) (hn : pf n = pf i + 1) : ri_snd (ri_W p l e R s m args below meth c D ka sa base nL Q pf) i (i_ald n 0) := by
  intro k hk U V L st h hf
  unfold i_ald at hf
  split at hf
  · rename_i j q r
    split at hf
    · rename_i t N f hat
      obtain ⟨hin, hf⟩ := hf
      replace hf := ri_bif hf; obtain ⟨hb, hf⟩ := hf
      have hcc : t = 0 := Nat.eq_of_beq_eq_true hb
      subst hcc
      intro H locs ls hH hS hl
      have hw := hk _ _ _ _ _ _ hf H locs ls hH hS hl
      rw [hn] at hw
      cases hq : Nat.ble 16 q with
      | false =>
        rw [ri_at_lo hq] at hat
        obtain ⟨t0, ht0, e0⟩ := Option.map_eq_some_iff.mp hat
        cases e0
        show W p l e R s m args below meth c H locs U V Q (F0 m (pf i) ls (.int j :: .ref (ri_ad sa base q) :: r.map (ri_v sa base)))
        rw [ri_ad_lo hq]
        exact va_ti X.1 X.2.1 (X.2.2.2.2.2.2.2.2.1 q t0 ht0).2 hS hin rfl hd hw
      | true =>
        rw [ri_at_hi hq] at hat
        show W p l e R s m args below meth c H locs U V Q (F0 m (pf i) ls (.int j :: .ref (ri_ad sa base q) :: r.map (ri_v sa base)))
        rw [ri_ad_hi hq]
        exact va_iald X.1 X.2.1 X.2.2.2.2.2.1 hH.1 (q - 16) 0 (ri_w_get hat) (ri_tys_get hkt) hin hd hw
    · exact hf.elim
  · exact hf.elim
theorem s_zald (X : ri_X p s m args c cc nL Ts own D ka sa base) (hkt : ri_kt[1]? = some .boolean) (hd : decode cc (pf i) = .ok (.baload, 1)) (hn : pf n = pf i + 1) : ri_snd (ri_W p l e R s m args below meth c D ka sa base nL Q pf) i (i_ald n 1) := by
  intro k hk U V L st h hf
  unfold i_ald at hf
  split at hf
  · rename_i j q r
    split at hf
    · rename_i t N f hat
      obtain ⟨hin, hf⟩ := hf
      replace hf := ri_bif hf; obtain ⟨hb, hf⟩ := hf
      have hcc : t = 1 := Nat.eq_of_beq_eq_true hb
      subst hcc
      intro H locs ls hH hS hl
      have hw := hk _ _ _ _ _ _ hf H locs ls hH hS hl
      rw [hn] at hw
      cases hq : Nat.ble 16 q with
      | false =>
        rw [ri_at_lo hq] at hat
        obtain ⟨t0, ht0, e0⟩ := Option.map_eq_some_iff.mp hat
        cases e0
      | true =>
        rw [ri_at_hi hq] at hat
        show W p l e R s m args below meth c H locs U V Q (F0 m (pf i) ls (.int j :: .ref (ri_ad sa base q) :: r.map (ri_v sa base)))
        rw [ri_ad_hi hq]
        exact va_zald X.1 X.2.1 X.2.2.2.2.2.1 hH.1 (q - 16) 1 (ri_w_get hat) (ri_tys_get hkt) hin hd hw
    · exact hf.elim
  · exact hf.elim
theorem s_iast (X : ri_X p s m args c cc nL Ts own D ka sa base) (hkt : ri_kt[0]? = some .int) (hd : decode cc (pf i) = .ok (.iastore, 1)) (hn : pf n = pf i + 1) : ri_snd (ri_W p l e R s m args below meth c D ka sa base nL Q pf) i (i_ast n 0 (fun x => x)) := by
  intro k hk U V L st h hf
  unfold i_ast at hf
  split at hf
  · rename_i x j q r
    split at hf
    · rename_i t N f hat
      obtain ⟨hin, hf⟩ := hf
      replace hf := ri_bif hf; obtain ⟨hB, hf⟩ := hf
      obtain ⟨hq, hb⟩ := ri_and hB
      have hcc : t = 0 := Nat.eq_of_beq_eq_true hb
      subst hcc
      rw [ri_at_hi hq] at hat
      intro H locs ls hH hS hl
      show W p l e R s m args below meth c H locs U V Q (F0 m (pf i) ls (.int x :: .int j :: .ref (ri_ad sa base q) :: r.map (ri_v sa base)))
      rw [ri_ad_hi hq]
      have he := ri_w_get (sa := sa) (base := base) (ka := ka) hat
      refine W.iast X.1 X.2.1 (hH.1 (q - 16) _ he) ((X.2.2.2.2.2.1.2 0 _ (ri_tys_get hkt)).1 N (fun a => .int (f a))) (fun z => by cases z) (by show ¬ (j < 0 ∨ (arrV _ _ _).slots.size ≤ _); rw [arrV_size]; exact hin) rfl rfl hd fun H1 e1 z1 oq => ?_
      have hP1 : va_P D ri_cl ((ri_w sa base ka h).set (q - 16) (base + (q - 16), ri_c sa base ka (.inl (0, N, .inl (upd f j.toNatClampNeg ((fun x => x) x)))))) H1 := by
        refine hH.1.set ri_w_D he ?_ oq
        show H1[base + (q - 16)]? = some (vp_cell _ _)
        rw [e1]
        show some ((vp_cell (ka 0) (N, .inl f)).setSlot _ _) = some (vp_cell (ka 0) (N, .inl (upd f j.toNatClampNeg ((fun x => x) x))))
        rw [vp_cell_i, vp_cell_i, arrV_store]
        congr 2
        funext b
        by_cases hb2 : b = j.toNatClampNeg
        · subst hb2
          simp [updV, upd]
        · simp [updV, upd, hb2]
      rw [ri_w_set] at hP1
      have hw := hk _ _ _ _ _ _ hf H1 _ ls ⟨hP1, by rw [z1, List.length_set]; exact hH.2⟩ (hS.put (k := j.toNatClampNeg) z1 oq (show base ≤ base + (q - 16) by omega)) hl
      rw [hn] at hw
      exact hw
    · exact hf.elim
  · exact hf.elim
theorem s_zast (X : ri_X p s m args c cc nL Ts own D ka sa base) (hkt : ri_kt[1]? = some .boolean) (hd : decode cc (pf i) = .ok (.bastore, 1)) (hn : pf n = pf i + 1) : ri_snd (ri_W p l e R s m args below meth c D ka sa base nL Q pf) i (i_ast n 1 (fun x => vp_nar .boolean x)) := by
  intro k hk U V L st h hf
  unfold i_ast at hf
  split at hf
  · rename_i x j q r
    split at hf
    · rename_i t N f hat
      obtain ⟨hin, hf⟩ := hf
      replace hf := ri_bif hf; obtain ⟨hB, hf⟩ := hf
      obtain ⟨hq, hb⟩ := ri_and hB
      have hcc : t = 1 := Nat.eq_of_beq_eq_true hb
      subst hcc
      rw [ri_at_hi hq] at hat
      intro H locs ls hH hS hl
      show W p l e R s m args below meth c H locs U V Q (F0 m (pf i) ls (.int x :: .int j :: .ref (ri_ad sa base q) :: r.map (ri_v sa base)))
      rw [ri_ad_hi hq]
      have he := ri_w_get (sa := sa) (base := base) (ka := ka) hat
      refine W.zast X.1 X.2.1 (hH.1 (q - 16) _ he) ((X.2.2.2.2.2.1.2 1 _ (ri_tys_get hkt)).1 N (fun a => .int (f a))) (fun z => by cases z) (by show ¬ (j < 0 ∨ (arrV _ _ _).slots.size ≤ _); rw [arrV_size]; exact hin) rfl rfl hd fun H1 e1 z1 oq => ?_
      have hP1 : va_P D ri_cl ((ri_w sa base ka h).set (q - 16) (base + (q - 16), ri_c sa base ka (.inl (1, N, .inl (upd f j.toNatClampNeg ((fun x => vp_nar .boolean x) x)))))) H1 := by
        refine hH.1.set ri_w_D he ?_ oq
        show H1[base + (q - 16)]? = some (vp_cell _ _)
        rw [e1]
        show some ((vp_cell (ka 1) (N, .inl f)).setSlot _ _) = some (vp_cell (ka 1) (N, .inl (upd f j.toNatClampNeg ((fun x => vp_nar .boolean x) x))))
        rw [vp_cell_i, vp_cell_i, arrV_store]
        congr 2
        funext b
        by_cases hb2 : b = j.toNatClampNeg
        · subst hb2
          simp [updV, upd, vp_nar]
          try rfl
        · simp [updV, upd, hb2]
      rw [ri_w_set] at hP1
      have hw := hk _ _ _ _ _ _ hf H1 _ ls ⟨hP1, by rw [z1, List.length_set]; exact hH.2⟩ (hS.put (k := j.toNatClampNeg) z1 oq (show base ≤ base + (q - 16) by omega)) hl
      rw [hn] at hw
      exact hw
    · exact hf.elim
  · exact hf.elim
theorem s_alen (X : ri_X p s m args c cc nL Ts own D ka sa base) (hkt : ∀ t < ri_kt.length, ∃ ty, ri_kt[t]? = some ty) (hd : decode cc (pf i) = .ok (.arraylength, 1)) (hn : pf n = pf i + 1) : ri_snd (ri_W p l e R s m args below meth c D ka sa base nL Q pf) i (i_alen n) := by
  intro k hk U V L st h hf
  unfold i_alen at hf
  split at hf
  · rename_i q r
    split at hf
    · rename_i t N ff hat
      replace hf := ri_bif hf; obtain ⟨hb, hf⟩ := hf
      intro H locs ls hH hS hl
      have hw := hk _ _ _ _ _ _ hf H locs ls hH hS hl
      rw [hn] at hw
      cases hq : Nat.ble 16 q with
      | false =>
        rw [ri_at_lo hq] at hat
        obtain ⟨t0, ht0, e0⟩ := Option.map_eq_some_iff.mp hat
        cases e0
        show W p l e R s m args below meth c H locs U V Q (F0 m (pf i) ls (.ref (ri_ad sa base q) :: r.map (ri_v sa base)))
        rw [ri_ad_lo hq]
        exact va_tlen X.1 X.2.1 (X.2.2.2.2.2.2.2.2.1 q t0 ht0).2 hS rfl hd hw
      | true =>
        rw [ri_at_hi hq] at hat
        obtain ⟨ty, hty⟩ := hkt t (Nat.le_of_ble_eq_true hb)
        show W p l e R s m args below meth c H locs U V Q (F0 m (pf i) ls (.ref (ri_ad sa base q) :: r.map (ri_v sa base)))
        rw [ri_ad_hi hq]
        cases ff with
        | inl f => exact va_alen X.1 X.2.1 X.2.2.2.2.2.1 hH.1 (q - 16) t (ri_w_get hat) (ri_tys_get hty) rfl hd hw
        | inr g => exact va_alen X.1 X.2.1 X.2.2.2.2.2.1 hH.1 (q - 16) t (ri_w_get hat) (ri_tys_get hty) rfl hd hw
    · exact hf.elim
  · exact hf.elim
theorem s_aald (X : ri_X p s m args c cc nL Ts own D ka sa base) {kd : Nat} {ty : FieldType} (hkt : ri_kt[kd]? = some ty) (hr : ty.isReference = true) (hd : decode cc (pf i) = .ok (.aaload, 1)) (hn : pf n = pf i + 1) : ri_snd (ri_W p l e R s m args below meth c D ka sa base nL Q pf) i (i_aald n kd) := by
  intro k hk U V L st h hf
  unfold i_aald at hf
  split at hf
  · rename_i j q r
    split at hf
    · rename_i t N g hat
      obtain ⟨hin, hf⟩ := hf
      replace hf := ri_bif hf; obtain ⟨hB, hf⟩ := hf
      obtain ⟨hq, hb⟩ := ri_and hB
      have hcc : t = kd := Nat.eq_of_beq_eq_true hb
      subst hcc
      rw [ri_at_hi hq] at hat
      intro H locs ls hH hS hl
      have hw := hk _ _ _ _ _ _ hf H locs ls hH hS hl
      rw [hn] at hw
      have hw : W p l e R s m args below meth c H locs U V Q (F0 m (pf i + 1) ls (ri_v sa base (va_rf (g j.toNatClampNeg)) :: r.map (ri_v sa base))) := hw
      rw [ri_rf] at hw
      show W p l e R s m args below meth c H locs U V Q (F0 m (pf i) ls (.int j :: .ref (ri_ad sa base q) :: r.map (ri_v sa base)))
      rw [ri_ad_hi hq]
      have hlt : j.toNatClampNeg < N := Nat.not_le.mp fun z => hin (Or.inr z)
      exact W.aald (v := va_rf ((g j.toNatClampNeg).map (ri_ad sa base))) (ty := ty) X.1 X.2.1 (hH.1 (q - 16) _ (ri_w_get hat)) ((X.2.2.2.2.2.1.2 t _ (ri_tys_get hkt)).1 N (fun a => va_rf ((g a).map (ri_ad sa base)))) hr (fun z => by cases z) (by show ¬ (j < 0 ∨ (arrV _ _ _).slots.size ≤ _); rw [arrV_size]; exact hin) (by show (arrV _ _ _).slots[_]? = _; rw [arrV_read _ _ hlt]) rfl rfl hd hw
    · exact hf.elim
  · exact hf.elim
end RIT
