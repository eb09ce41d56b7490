/-! new cells, Object's constructor, Math, switches -/
def i_nw (n ci N : Nat) (fs : List Value) (RC RS : Nat) : ri_S := fun k U V L st h =>
  bif Nat.ble (U + 1) RC && Nat.ble (V + N) RS then k n (U + 1) (V + N) L (.ref (16 + h.length) :: st) (h ++ [.inr (ci, fs)]) else False
def i_nwa (n kd : Nat) (RC RS : Nat) : ri_S := fun k U V L st h => match st with
  | .int x :: r => ¬ x < 0 ∧ bif Nat.ble (x.toNatClampNeg * 4) 536870912 && (Nat.ble (U + 1) RC && Nat.ble (V + x.toNatClampNeg) RS) then k n (U + 1) (V + x.toNatClampNeg) L (.ref (16 + h.length) :: r) (h ++ [.inl (kd, x.toNatClampNeg, .inl (fun _ => 0))]) else False
  | _ => False
def i_nwq (n kd : Nat) (RC RS : Nat) : ri_S := fun k U V L st h => match st with
  | .int x :: r => ¬ x < 0 ∧ bif Nat.ble (x.toNatClampNeg * 4) 536870912 && (Nat.ble (U + 1) RC && Nat.ble (V + x.toNatClampNeg) RS) then k n (U + 1) (V + x.toNatClampNeg) L (.ref (16 + h.length) :: r) (h ++ [.inl (kd, x.toNatClampNeg, .inr (fun _ => none))]) else False
  | _ => False
def i_aast (n kd ci : Nat) : ri_S := fun k U V L st h => match st with
  | .ref v :: .int j :: .ref q :: r => match ri_at h q with
    | some (.inl (t, N, .inr g)) => vp_in j N ∧ (match ri_at h v with
      | some (.inr (c', _)) => bif Nat.ble 16 q && (Nat.ble 16 v && (Nat.beq t kd && Nat.beq c' ci)) then k n U V L r (h.set (q - 16) (.inl (t, N, .inr (va_up g j.toNatClampNeg (some v))))) else False
      | _ => False)
    | _ => False
  | _ => False
def i_oi (n RF RL : Nat) : ri_S := fun k U V L st h => match st with
  | .ref _ :: r => bif Nat.ble 1 RF && Nat.ble ((r.map Value.category).sum + 12) RL then k n U V L r h else False
  | _ => False
def i_m2 (n : Nat) (f : Int32 → Int32 → Int32) (RF RL RC RS : Nat) : ri_S := fun k U V L st h => match st with
  | .int y :: .int x :: r => bif Nat.ble 1 RF && (Nat.ble ((r.map Value.category).sum + 13) RL && (Nat.ble U RC && Nat.ble V RS)) then k n U V L (.int (f x y) :: r) h else False
  | _ => False
def i_m1 (n : Nat) (f : Int32 → Int32) (RF RL RC RS : Nat) : ri_S := fun k U V L st h => match st with
  | .int x :: r => bif Nat.ble 1 RF && (Nat.ble ((r.map Value.category).sum + 13) RL && (Nat.ble U RC && Nat.ble V RS)) then k n U V L (.int (f x) :: r) h else False
  | _ => False
theorem ri_ad_new (sa : Nat → Nat) (base n : Nat) : ri_ad sa base (16 + n) = base + n := by
  rw [ri_ad_hi (Nat.ble_eq_true_of_le (Nat.le_add_right 16 n)), Nat.add_sub_cancel_left]
theorem ri_cats {sa : Nat → Nat} {base : Nat} (r : List Value) : ((r.map (ri_v sa base)).map fun v => v.category).sum = (r.map Value.category).sum := by
  rw [List.map_map]
  have e : ((fun v : Value => v.category) ∘ ri_v sa base) = Value.category := by funext v; exact ri_v_cat sa base v
  rw [e]
section RIV
variable {p : Program} {l : Launch} {e : Env} {R : Room} {s : State} {m : MethodId} {args : Array Value} {below : List Frame} {meth : Method} {c : Code} {Q : State → Prop} {cc : ByteArray} {nL : Nat} {Ts : List Cond} {own : String} {D : va_G} {ka : Nat → ClassId} {sa : Nat → Nat} {base : Nat} {pf : Nat → Nat} {i n t : Nat}
/-- one cell more, at the heap's end -/
theorem ri_grow {h : List ri_C} {H H1 : Heap} {ec : ri_C} (hH : ri_H D ka sa base h H) (hat : va_at D ri_cl (base + h.length, ri_c sa base ka ec) H1) (z1 : H1.size = base + h.length + 1) (o1 : ∀ q, q < base + h.length → H1[q]? = H[q]?) : ri_H D ka sa base (h ++ [ec]) H1 := by
  refine ⟨?_, by rw [z1, List.length_append]; rfl⟩
  rw [ri_w_app]
  refine (hH.1.kept (fun k x hx => o1 x.1 (by have := (hH.1 k x hx).lt; rw [hH.2] at this; exact this))).app (fun k x hx => ?_)
  have hz : k < 1 := (List.getElem?_eq_some_iff.mp hx).1
  rw [show k = 0 by omega] at hx
  cases hx
  exact hat
theorem ri_S_grow {H H1 : Heap} {locs : List Loc} {z : Nat} (hS : va_S (fun q => base ≤ q) s.heap H locs) (hz : H.size = z) (z1 : H1.size = z + 1) (o1 : ∀ q, q < z → H1[q]? = H[q]?) : va_S (fun q => base ≤ q) s.heap H1 locs :=
  ⟨Nat.le_trans hS.1 (by omega), fun q h1 h2 => (o1 q (by have := hS.1; omega)).trans (hS.2.1 q h1 h2), hS.2.2⟩

theorem s_new (X : ri_X p s m args c cc nL Ts own D ka sa base) {ci N ix : Nat} {C : String} {T : u_T} {fs : List Value} (hc : ri_cl[ci]? = some (C, T, N)) (hin : ∀ w ∈ u_ws C T N, w ∈ Ts) (ty : Nat → FieldType) (hty : ∀ k, k < N → parseFieldDescriptor (T k).2.2.1 = some (ty k)) (hfs : ∀ j, j < N → defaultValue (ty j) = vp_V fs j) (hfix : fs.map (ri_v sa base) = fs) (hcl : Cond.classLink own ix C ∈ Ts) (hinst : Cond.instantiable C N ∈ Ts) (hini : Cond.initialized C ∈ Ts) (hd : decode cc (pf i) = .ok (.new ix, 3)) (hn : pf n = pf i + 3) : ri_snd (ri_W p l e R s m args below meth c D ka sa base nL Q pf) i (i_nw n ci N fs R.cells R.slots) := by
  intro k hk U V L st h hf
  unfold i_nw at hf
  replace hf := ri_bif hf; obtain ⟨hB, hf⟩ := hf
  obtain ⟨h1, h2⟩ := ri_and hB
  intro H locs ls hH hS hl
  have hKn := X.2.2.2.2.2.1.1 ci _ hc
  refine W.newcK X.1 X.2.1 X.2.2.2.1 (X.2.2.2.2.1 _ hcl) (X.2.2.2.2.1 _ hinst) (X.2.2.2.2.1 _ hini) rfl hd (Nat.le_of_ble_eq_true h1) (Nat.le_of_ble_eq_true h2) hKn.2.1 hH.2 fun H1 kC hkC e1 z1 o1 => ?_
  have hat : va_at D ri_cl (base + h.length, ri_c sa base ka (.inr (ci, fs))) H1 := by
    show ∃ r : vw_C, ri_cl[ci]? = some r ∧ t_OB (base + h.length) (D.1 ci) r.2.2 (D.2 ci) H1 (vp_V (fs.map (ri_v sa base)))
    rw [hfix]
    exact ⟨_, hc, (u_born ty X.2.2.2.2.1 hin hKn hkC e1 hty).to hfs⟩
  have hw := hk _ _ _ _ _ _ hf H1 locs ls (ri_grow hH hat z1 o1) (ri_S_grow hS hH.2 z1 o1) hl
  rw [hn] at hw
  have hw : W p l e R s m args below meth c H1 locs (U + 1) (V + N) Q (F0 m (pf i + 3) ls (.ref (ri_ad sa base (16 + h.length)) :: st.map (ri_v sa base))) := hw
  rw [ri_ad_new] at hw
  exact hw
theorem s_newi (X : ri_X p s m args c cc nL Ts own D ka sa base) (hkt : ri_kt[0]? = some .int) (harr : Cond.arrayClass .int ∈ Ts) (hd : decode cc (pf i) = .ok (.newarray .int, 2)) (hn : pf n = pf i + 2) : ri_snd (ri_W p l e R s m args below meth c D ka sa base nL Q pf) i (i_nwa n 0 R.cells R.slots) := by
  intro k hk U V L st h hf
  unfold i_nwa at hf
  split at hf
  · rename_i x r
    obtain ⟨hx, hf⟩ := hf
    replace hf := ri_bif hf; obtain ⟨hB, hf⟩ := hf
    replace hB := ri_and hB; obtain ⟨h0, hB⟩ := hB
    obtain ⟨h1, h2⟩ := ri_and hB
    intro H locs ls hH hS hl
    have h0' := Nat.le_of_ble_eq_true h0
    refine va_newaK (atype := .int) X.1 X.2.1 (X.2.2.2.2.1 _ harr) rfl hd rfl hx rfl (Nat.le_trans (Nat.mul_le_mul_left _ (by decide)) h0') (Nat.le_of_ble_eq_true h1) (Nat.le_of_ble_eq_true h2) hH.2 fun H1 cA e1 z1 o1 hAr hNm => ?_
    have hcA : cA = ka 0 := Option.some.inj (hNm.symm.trans (X.2.2.2.2.2.1.2 0 _ (ri_tys_get hkt)).2)
    subst hcA
    have hat : va_at D ri_cl (base + h.length, ri_c sa base ka (.inl (0, x.toNatClampNeg, .inl (fun _ => 0)))) H1 := by
      show H1[base + h.length]? = some (vp_cell (ka 0) (x.toNatClampNeg, .inl (fun _ => 0)))
      rw [vp_cell_i]
      exact e1
    have hw := hk _ _ _ _ _ _ hf H1 locs ls (ri_grow hH hat z1 o1) (ri_S_grow hS hH.2 z1 o1) hl
    rw [hn] at hw
    have hw : W p l e R s m args below meth c H1 locs (U + 1) (V + x.toNatClampNeg) Q (F0 m (pf i + 2) ls (.ref (ri_ad sa base (16 + h.length)) :: r.map (ri_v sa base))) := hw
    rw [ri_ad_new] at hw
    exact hw
  · exact hf.elim
theorem s_newz (X : ri_X p s m args c cc nL Ts own D ka sa base) (hkt : ri_kt[1]? = some .boolean) (harr : Cond.arrayClass .boolean ∈ Ts) (hd : decode cc (pf i) = .ok (.newarray .boolean, 2)) (hn : pf n = pf i + 2) : ri_snd (ri_W p l e R s m args below meth c D ka sa base nL Q pf) i (i_nwa n 1 R.cells R.slots) := by
  intro k hk U V L st h hf
  unfold i_nwa at hf
  split at hf
  · rename_i x r
    obtain ⟨hx, hf⟩ := hf
    replace hf := ri_bif hf; obtain ⟨hB, hf⟩ := hf
    replace hB := ri_and hB; obtain ⟨h0, hB⟩ := hB
    obtain ⟨h1, h2⟩ := ri_and hB
    intro H locs ls hH hS hl
    have h0' := Nat.le_of_ble_eq_true h0
    refine va_newaK (atype := .boolean) X.1 X.2.1 (X.2.2.2.2.1 _ harr) rfl hd rfl hx rfl (Nat.le_trans (Nat.mul_le_mul_left _ (by decide)) h0') (Nat.le_of_ble_eq_true h1) (Nat.le_of_ble_eq_true h2) hH.2 fun H1 cA e1 z1 o1 hAr hNm => ?_
    have hcA : cA = ka 1 := Option.some.inj (hNm.symm.trans (X.2.2.2.2.2.1.2 1 _ (ri_tys_get hkt)).2)
    subst hcA
    have hat : va_at D ri_cl (base + h.length, ri_c sa base ka (.inl (1, x.toNatClampNeg, .inl (fun _ => 0)))) H1 := by
      show H1[base + h.length]? = some (vp_cell (ka 1) (x.toNatClampNeg, .inl (fun _ => 0)))
      rw [vp_cell_i]
      exact e1
    have hw := hk _ _ _ _ _ _ hf H1 locs ls (ri_grow hH hat z1 o1) (ri_S_grow hS hH.2 z1 o1) hl
    rw [hn] at hw
    have hw : W p l e R s m args below meth c H1 locs (U + 1) (V + x.toNatClampNeg) Q (F0 m (pf i + 2) ls (.ref (ri_ad sa base (16 + h.length)) :: r.map (ri_v sa base))) := hw
    rw [ri_ad_new] at hw
    exact hw
  · exact hf.elim
theorem s_anew (X : ri_X p s m args c cc nL Ts own D ka sa base) {kd ix : Nat} {C : String} (hkt : ri_kt[kd]? = some (.object C)) (hao : C ∈ ri_AO) (hcl : Cond.classLink own ix C ∈ Ts) (hd : decode cc (pf i) = .ok (.anewarray ix, 3)) (hn : pf n = pf i + 3) : ri_snd (ri_W p l e R s m args below meth c D ka sa base nL Q pf) i (i_nwq n kd R.cells R.slots) := by
  intro k hk U V L st h hf
  unfold i_nwq at hf
  split at hf
  · rename_i x r
    obtain ⟨hx, hf⟩ := hf
    replace hf := ri_bif hf; obtain ⟨hB, hf⟩ := hf
    replace hB := ri_and hB; obtain ⟨h0, hB⟩ := hB
    obtain ⟨h1, h2⟩ := ri_and hB
    intro H locs ls hH hS hl
    refine W.anew X.1 X.2.1 X.2.2.2.1 (X.2.2.2.2.1 _ hcl) (va_AO.use (X.2.2.2.2.2.2.2.1.1 C hao)) rfl hd rfl hx (Nat.le_of_ble_eq_true h0) (Nat.le_of_ble_eq_true h1) (Nat.le_of_ble_eq_true h2) fun cA kA comp f1 f2 f3 f4 => ?_
    generalize hH1 : H.push ({ cls := cA, slots := Array.replicate x.toNatClampNeg .null, vm := .none } : Cell) = H1
    have z1 : H1.size = base + h.length + 1 := by rw [← hH1, Array.size_push, hH.2]
    have e1 : H1[base + h.length]? = some (arrV cA x.toNatClampNeg (fun _ => .null)) := by rw [← hH1, ← hH.2, Array.getElem?_push_size, ← arrV_new]
    have o1 : ∀ q : Nat, q < base + h.length → H1[q]? = H[q]? := fun q hq => by rw [← hH1, Array.getElem?_push, if_neg (by rw [hH.2]; exact Nat.ne_of_lt hq)]
    obtain ⟨kA2, comp2, g1, g2, g3, g4⟩ := (X.2.2.2.2.2.1.2 kd _ (ri_tys_get hkt)).2
    have hcA : cA = ka kd := Option.some.inj (f1.symm.trans g4)
    subst hcA
    have hat : va_at D ri_cl (base + h.length, ri_c sa base ka (.inl (kd, x.toNatClampNeg, .inr (fun _ => none)))) H1 := by
      show H1[base + h.length]? = some (vp_cell (ka kd) (x.toNatClampNeg, .inr (.inr (.inr (.inr (fun _ => Option.map (ri_ad sa base) none))))))
      rw [vp_cell_q]
      exact e1
    have hw := hk _ _ _ _ _ _ hf H1 locs ls (ri_grow hH hat z1 o1) (ri_S_grow hS hH.2 z1 o1) hl
    rw [hn] at hw
    have hw : W p l e R s m args below meth c H1 locs (U + 1) (V + x.toNatClampNeg) Q (F0 m (pf i + 3) ls (.ref (ri_ad sa base (16 + h.length)) :: r.map (ri_v sa base))) := hw
    rw [ri_ad_new, ← hH.2] at hw
    exact hw
  · exact hf.elim
theorem s_aast (X : ri_X p s m args c cc nL Ts own D ka sa base) {kd ci N0 : Nat} {C : String} {T : u_T} (hkt : ri_kt[kd]? = some (.object C)) (hc : ri_cl[ci]? = some (C, T, N0)) (hd : decode cc (pf i) = .ok (.aastore, 1)) (hn : pf n = pf i + 1) : ri_snd (ri_W p l e R s m args below meth c D ka sa base nL Q pf) i (i_aast n kd ci) := by
  intro k hk U V L st h hf
  unfold i_aast at hf
  split at hf
  · rename_i v j q r
    split at hf
    · rename_i t N g hat
      obtain ⟨hin, hf⟩ := hf
      split at hf
      · rename_i c' fs hav
        replace hf := ri_bif hf; obtain ⟨hB, hf⟩ := hf
        replace hB := ri_and hB; obtain ⟨hq, hB⟩ := hB
        replace hB := ri_and hB; obtain ⟨hv, hB⟩ := hB
        obtain ⟨ht, hb⟩ := ri_and hB
        have e1 : t = kd := Nat.eq_of_beq_eq_true ht
        have e2 : c' = ci := Nat.eq_of_beq_eq_true hb
        subst e1; subst e2
        rw [ri_at_hi hq] at hat
        rw [ri_at_hi hv] at hav
        intro H locs ls hH hS hl
        show W p l e R s m args below meth c H locs U V Q (F0 m (pf i) ls (.ref (ri_ad sa base v) :: .int j :: .ref (ri_ad sa base q) :: r.map (ri_v sa base)))
        have had := ri_ad_hi (sa := sa) (base := base) hv
        rw [ri_ad_hi hq, had]
        have he := ri_w_get (sa := sa) (base := base) (ka := ka) hat
        have hlt : j.toNatClampNeg < N := Nat.not_le.mp fun z => hin (Or.inr z)
        obtain ⟨r', hr', cellV, g1, g2, g3, -⟩ := hH.1 (v - 16) _ (ri_w_get (sa := sa) (base := base) (ka := ka) hav)
        have hcls := (X.2.2.2.2.2.1.1 c' _ hc).2
        obtain ⟨kA, comp, k1, k2, k3, -⟩ := (X.2.2.2.2.2.1.2 t _ (ri_tys_get hkt)).2
        have hcomp : comp = D.1 c' := Option.some.inj (k3.symm.trans hcls.1)
        subst hcomp
        obtain ⟨kC, hkC, -⟩ := hcls.2
        refine W.aast X.1 X.2.1 (hH.1 (q - 16) _ he) (fun z hz => by cases hz) (fun hz => by cases hz) k1 k2 rfl hkC ⟨fun z => hin (Or.inl z), by show _ < (arrV _ _ _).slots.size; rw [arrV_size]; exact hlt⟩ g1 (fun z hz => by rw [g3] at hz; cases hz) (by rw [g2]; exact hkC) (by rw [g2]; exact va_assign hcls) rfl rfl hd fun H1 e1 z1 oq => ?_
        have hP1 : va_P D ri_cl ((ri_w sa base ka h).set (q - 16) (base + (q - 16), ri_c sa base ka (.inl (t, N, .inr (va_up g j.toNatClampNeg (some v)))))) H1 := by
          refine hH.1.set ri_w_D he ?_ oq
          show H1[base + (q - 16)]? = some (vp_cell (ka t) (N, .inr (.inr (.inr (.inr (fun a => (va_up g j.toNatClampNeg (some v) a).map (ri_ad sa base)))))))
          rw [e1]
          show some ((vp_cell (ka t) (N, .inr (.inr (.inr (.inr (fun a => (g a).map (ri_ad sa base))))))).setSlot _ _) = _
          rw [vp_cell_q, vp_cell_q, arrV_store]
          congr 2
          funext b
          by_cases hb2 : b = j.toNatClampNeg
          · subst hb2
            simp [updV, va_up, va_rf, had]
          · simp [updV, va_up, hb2]
        rw [ri_w_set] at hP1
        have hw := hk _ _ _ _ _ _ hf H1 _ ls ⟨hP1, by rw [z1, List.length_set]; exact hH.2⟩ (hS.put (k := j.toNatClampNeg) z1 oq (show base ≤ base + (q - 16) by omega)) hl
        rw [hn] at hw
        exact hw
      · exact hf.elim
    · exact hf.elim
  · exact hf.elim
theorem s_oi (X : ri_X p s m args c cc nL Ts own D ka sa base) {ix : Nat} (hlink : Cond.methodLink own ix Lib.objectInit ∈ Ts) (hinst : Cond.instanceMethod Lib.objectInit ∈ Ts) (hcode : Cond.code Lib.objectInit ⟨#[0xb1]⟩ 1 none ∈ Ts) (hd : decode cc (pf i) = .ok (.invokespecial ix, 3)) (hn : pf n = pf i + 3) : ri_snd (ri_W p l e R s m args below meth c D ka sa base nL Q pf) i (i_oi n R.frames R.locals) := by
  intro k hk U V L st h hf
  unfold i_oi at hf
  split at hf
  · rename_i q r
    replace hf := ri_bif hf; obtain ⟨hB, hf⟩ := hf
    obtain ⟨h1, h2⟩ := ri_and hB
    intro H locs ls hH hS hl
    have hw := hk _ _ _ _ _ _ hf H locs ls hH hS hl
    rw [hn] at hw
    have h2' := Nat.le_of_ble_eq_true h2
    exact W.objInit X.1 X.2.1 X.2.2.2.1 (X.2.2.2.2.1 _ hlink) (X.2.2.2.2.1 _ hinst) (X.2.2.2.2.1 _ hcode) rfl (by rw [X.2.2.1]; exact hl.1) (rest := r.map (ri_v sa base)) rfl hd (Nat.le_of_ble_eq_true h1) (by rw [ri_cats]; show 2 * 0 + _ + 12 ≤ _; omega) hw
  · exact hf.elim
theorem s_max (X : ri_X p s m args c cc nL Ts own D ka sa base) {ix : Nat} (hlink : Cond.methodLink own ix Lib.Math.max.name ∈ Ts) (hstat : Cond.static Lib.Math.max.name ∈ Ts) (hini : Cond.initialized "java/lang/Math" ∈ Ts) (hcode : Cond.code Lib.Math.max.name Lib.Math.max.code 2 (some .int) ∈ Ts) (hd : decode cc (pf i) = .ok (.invokestatic ix, 3)) (hn : pf n = pf i + 3) : ri_snd (ri_W p l e R s m args below meth c D ka sa base nL Q pf) i (i_m2 n (fun x y => if x < y then y else x) R.frames R.locals R.cells R.slots) := by
  intro k hk U V L st h hf
  unfold i_m2 at hf
  split at hf
  · replace hf := ri_bif hf; obtain ⟨hB, hf⟩ := hf
    replace hB := ri_and hB; obtain ⟨h1, hB⟩ := hB
    replace hB := ri_and hB; obtain ⟨h2, hB⟩ := hB
    obtain ⟨h3, h4⟩ := ri_and hB
    intro H locs ls hH hS hl
    have hw := hk _ _ _ _ _ _ hf H locs ls hH hS hl
    rw [hn] at hw
    exact va_mmax X.1 X.2.1 (by rw [X.2.2.1]; exact hl.1.symm) X.2.2.2.1 (X.2.2.2.2.1 _ hlink) (X.2.2.2.2.1 _ hstat) (X.2.2.2.2.1 _ hini) (X.2.2.2.2.1 _ hcode) (Nat.le_of_ble_eq_true h1) (by rw [ri_cats]; exact Nat.le_of_ble_eq_true h2) (Nat.le_of_ble_eq_true h3) (Nat.le_of_ble_eq_true h4) hd hw
  · exact hf.elim
theorem s_min (X : ri_X p s m args c cc nL Ts own D ka sa base) {ix : Nat} (hlink : Cond.methodLink own ix Lib.Math.min.name ∈ Ts) (hstat : Cond.static Lib.Math.min.name ∈ Ts) (hini : Cond.initialized "java/lang/Math" ∈ Ts) (hcode : Cond.code Lib.Math.min.name Lib.Math.min.code 2 (some .int) ∈ Ts) (hd : decode cc (pf i) = .ok (.invokestatic ix, 3)) (hn : pf n = pf i + 3) : ri_snd (ri_W p l e R s m args below meth c D ka sa base nL Q pf) i (i_m2 n (fun x y => if y < x then y else x) R.frames R.locals R.cells R.slots) := by
  intro k hk U V L st h hf
  unfold i_m2 at hf
  split at hf
  · replace hf := ri_bif hf; obtain ⟨hB, hf⟩ := hf
    replace hB := ri_and hB; obtain ⟨h1, hB⟩ := hB
    replace hB := ri_and hB; obtain ⟨h2, hB⟩ := hB
    obtain ⟨h3, h4⟩ := ri_and hB
    intro H locs ls hH hS hl
    have hw := hk _ _ _ _ _ _ hf H locs ls hH hS hl
    rw [hn] at hw
    exact va_mmin X.1 X.2.1 (by rw [X.2.2.1]; exact hl.1.symm) X.2.2.2.1 (X.2.2.2.2.1 _ hlink) (X.2.2.2.2.1 _ hstat) (X.2.2.2.2.1 _ hini) (X.2.2.2.2.1 _ hcode) (Nat.le_of_ble_eq_true h1) (by rw [ri_cats]; exact Nat.le_of_ble_eq_true h2) (Nat.le_of_ble_eq_true h3) (Nat.le_of_ble_eq_true h4) hd hw
  · exact hf.elim
theorem s_abs (X : ri_X p s m args c cc nL Ts own D ka sa base) {ix : Nat} (hlink : Cond.methodLink own ix Lib.Math.abs.name ∈ Ts) (hstat : Cond.static Lib.Math.abs.name ∈ Ts) (hini : Cond.initialized "java/lang/Math" ∈ Ts) (hcode : Cond.code Lib.Math.abs.name Lib.Math.abs.code 1 (some .int) ∈ Ts) (hd : decode cc (pf i) = .ok (.invokestatic ix, 3)) (hn : pf n = pf i + 3) : ri_snd (ri_W p l e R s m args below meth c D ka sa base nL Q pf) i (i_m1 n (fun x => if 0 ≤ x then x else 0 - x) R.frames R.locals R.cells R.slots) := by
  intro k hk U V L st h hf
  unfold i_m1 at hf
  split at hf
  · replace hf := ri_bif hf; obtain ⟨hB, hf⟩ := hf
    replace hB := ri_and hB; obtain ⟨h1, hB⟩ := hB
    replace hB := ri_and hB; obtain ⟨h2, hB⟩ := hB
    obtain ⟨h3, h4⟩ := ri_and hB
    intro H locs ls hH hS hl
    have hw := hk _ _ _ _ _ _ hf H locs ls hH hS hl
    rw [hn] at hw
    exact va_mabs X.1 X.2.1 (by rw [X.2.2.1]; exact hl.1.symm) X.2.2.2.1 (X.2.2.2.2.1 _ hlink) (X.2.2.2.2.1 _ hstat) (X.2.2.2.2.1 _ hini) (X.2.2.2.2.1 _ hcode) (Nat.le_of_ble_eq_true h1) (by rw [ri_cats]; exact Nat.le_of_ble_eq_true h2) (Nat.le_of_ble_eq_true h3) (Nat.le_of_ble_eq_true h4) hd hw
  · exact hf.elim
def ri_tg (x : Int32) : List (Int32 × Nat) → Nat → Nat
  | [], d => d
  | (v, t) :: r, d => if x = v then t else ri_tg x r d
theorem ri_sw_tg {P : Nat → Prop} {x : Int32} : ∀ (cs : List (Int32 × Nat)) (d : Nat), ri_sw P x cs d → P (ri_tg x cs d)
  | [], _, h => h
  | (v, t) :: r, d, h => by
    unfold ri_tg
    by_cases hx : x = v
    · rw [if_pos hx]; exact h.1 hx
    · rw [if_neg hx]; exact ri_sw_tg r d (h.2 hx)
theorem ri_tg_out {x : Int32} : ∀ (cs : List (Int32 × Nat)) (d : Nat), (∀ q ∈ cs, ¬ x = q.1) → ri_tg x cs d = d
  | [], _, _ => rfl
  | (v, t) :: r, d, h => by
    unfold ri_tg
    rw [if_neg (h (v, t) List.mem_cons_self)]
    exact ri_tg_out r d (fun q hq => h q (List.mem_cons_of_mem _ hq))
/-- a tableswitch: each of its places leads where the cases say -/
theorem s_tsw (X : ri_X p s m args c cc nL Ts own D ka sa base) {dflt lo hi : Int} {offs : Array Int} {len d : Nat} {cs : List (Int32 × Nat)} (hd : decode cc (pf i) = .ok (.tableswitch dflt lo hi offs, len)) (hdf : (pf i : Int) + dflt = (pf d : Int)) (hout : ∀ q ∈ cs, lo ≤ q.1.toInt ∧ q.1.toInt ≤ hi) (hcs : ∀ j : Nat, j < offs.size → ∃ off, offs[j]? = some off ∧ (pf i : Int) + off = (pf (ri_tg (Int32.ofInt (lo + j)) cs d) : Int)) (hsz : hi - lo < offs.size) : ri_snd (ri_W p l e R s m args below meth c D ka sa base nL Q pf) i (i_sw cs d) := by
  intro k hk U V L st h hf
  unfold i_sw at hf
  split at hf
  · rename_i x r
    have hf2 := ri_sw_tg cs d hf
    intro H locs ls hH hS hl
    have hw := hk _ _ _ _ _ _ hf2 H locs ls hH hS hl
    by_cases hx : x.toInt < lo ∨ hi < x.toInt
    · have e : ri_tg x cs d = d := ri_tg_out cs d (fun q hq z => by
        have := hout q hq
        rw [← z] at this
        omega)
      rw [e] at hw
      exact lv_tableOut X.1 X.2.1 hd hx hdf hw
    · obtain ⟨off, ho, ht⟩ := hcs (x.toInt - lo).toNat (by omega)
      have e : Int32.ofInt (lo + ((x.toInt - lo).toNat : Int)) = x := by
        rw [Int.toNat_of_nonneg (by omega), show lo + (x.toInt - lo) = x.toInt by omega]
        exact Int32.ofInt_toInt x
      rw [e] at ht
      exact lv_tableIn X.1 X.2.1 hd (fun z => hx (Or.inl z)) (fun z => hx (Or.inr z)) ho ht hw
  · exact hf.elim
theorem ri_lk {x : Int32} {pi : Nat} {dflt : Int} {d : Nat} (hdf : (pi : Int) + dflt = (pf d : Int)) : ∀ (ps : List (Int × Int)) (cs : List (Int32 × Nat)), ps.length = cs.length → (∀ (j : Nat) (a : Int × Int) (q : Int32 × Nat), ps[j]? = some a → cs[j]? = some q → q.1.toInt = a.1 ∧ (pi : Int) + a.2 = (pf q.2 : Int)) → (pi : Int) + Op.lookupswitch.offset ps dflt x.toInt = (pf (ri_tg x cs d) : Int)
  | [], [], _, _ => by simpa [Op.lookupswitch.offset, ri_tg] using hdf
  | a :: ps, (v, t) :: cs, hl, h => by
    have h0 := h 0 a (v, t) rfl rfl
    obtain ⟨a1, a2⟩ := a
    rw [Op.lookupswitch.offset_cons]
    unfold ri_tg
    by_cases hx : x = v
    · rw [if_pos hx, if_pos (by rw [hx]; exact h0.1.symm)]
      exact h0.2
    · rw [if_neg hx, if_neg (by intro z; exact hx (Int32.toInt_inj.mp (z.symm.trans h0.1.symm)))]
      exact ri_lk hdf ps cs (by simpa using hl) (fun j a q ha hq => h (j + 1) a q (by simpa using ha) (by simpa using hq))
theorem s_lsw (X : ri_X p s m args c cc nL Ts own D ka sa base) {dflt : Int} {ps : Array (Int × Int)} {len d : Nat} {cs : List (Int32 × Nat)} (hd : decode cc (pf i) = .ok (.lookupswitch dflt ps, len)) (hp : (ps.toList.zip (ps.toList.drop 1)).all (fun (a, next) => a.1 < next.1) = true) (hdf : (pf i : Int) + dflt = (pf d : Int)) (hlen : ps.toList.length = cs.length) (hcs : ∀ (j : Nat) (a : Int × Int) (q : Int32 × Nat), ps.toList[j]? = some a → cs[j]? = some q → q.1.toInt = a.1 ∧ (pf i : Int) + a.2 = (pf q.2 : Int)) : ri_snd (ri_W p l e R s m args below meth c D ka sa base nL Q pf) i (i_sw cs d) := by
  intro k hk U V L st h hf
  unfold i_sw at hf
  split at hf
  · rename_i x r
    have hf2 := ri_sw_tg cs d hf
    intro H locs ls hH hS hl
    have hw := hk _ _ _ _ _ _ hf2 H locs ls hH hS hl
    exact lv_lookup X.1 X.2.1 hd hp rfl (ri_lk hdf ps.toList cs hlen hcs) hw
  · exact hf.elim
end RIV
