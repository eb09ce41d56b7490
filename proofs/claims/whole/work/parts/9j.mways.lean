/-! THE REFERENCE: the best ways on: isBehind, addWay -/
def ENW (z : st_T) (w : Nat) (a : Nat × Nat) (D : Nat) : Prop := z.2.1 118 w = nI a.1 ∧ z.2.1 119 w = nI (D + a.2 / 4) ∧ z.2.1 120 w = nI (a.2 % 4)
/-- state s has these ways on -/
def WM (z : st_T) (s : Nat) (L : wy) (D : Nat) : Prop := z.2.1 121 s = nI L.length ∧ ∀ (j : Nat) (a : Nat × Nat), L[j]? = some a → ENW z (4 * s + j) a D
def W1 (z z' : st_T) (s : Nat) : Prop := (∀ q, q < 4 * s ∨ 4 * s + 4 ≤ q → z'.2.1 118 q = z.2.1 118 q ∧ z'.2.1 119 q = z.2.1 119 q ∧ z'.2.1 120 q = z.2.1 120 q) ∧ (∀ q, ¬ q = s → z'.2.1 121 q = z.2.1 121 q) ∧ mm [] [118, 119, 120, 121] z z'
theorem W1_rf (z : st_T) (s : Nat) : W1 z z s := ⟨fun _ _ => ⟨rfl, rfl, rfl⟩, fun _ _ => rfl, mm_rf _ _ _⟩
theorem W1_tr {z z' z'' : st_T} {s : Nat} (h : W1 z z' s) (h' : W1 z' z'' s) : W1 z z'' s := ⟨fun q hq => ⟨(h'.1 q hq).1.trans (h.1 q hq).1, (h'.1 q hq).2.1.trans (h.1 q hq).2.1, (h'.1 q hq).2.2.trans (h.1 q hq).2.2⟩, fun q hq => (h'.2.1 q hq).trans (h.2.1 q hq), mm_tr h.2.2 h'.2.2⟩
theorem W1_WM {z z' : st_T} {s s' : Nat} {L : wy} {D : Nat} (h : W1 z z' s) (hne : ¬ s' = s) (h4 : L.length ≤ 4) (hL : WM z s' L D) : WM z' s' L D := by
  refine ⟨by rw [h.2.1 s' hne]; exact hL.1, fun j a ha => ?_⟩
  have hj := (List.getElem?_eq_some_iff.mp ha).1
  have := h.1 (4 * s' + j) (by omega)
  unfold ENW
  rw [this.1, this.2.1, this.2.2]
  exact hL.2 j a ha
theorem e10_isBehind (l : Launch) (z : st_T) {w x u v sm t r : Nat} (hw : w < 25600) (h1 : z.2.1 118 w = nI x) (h2 : z.2.1 119 w = nI u) (h3 : z.2.1 120 w = nI v) (hx : x < 2 ^ 31) (hu : u < 2 ^ 31) (hv : v < 2 ^ 31) (hs : sm < 2 ^ 31) (ht : t < 2 ^ 31) (hr : r < 2 ^ 31) : ri_Ev l y10_isBehind w10_isBehind r10_isBehind 0 0 [.ref 117, .int (nI w), .int (nI sm), .int (nI t), .int (nI r)] (st_h z) (ri_is (zb (decide (sm < x ∨ (sm = x ∧ (t < u ∨ (t = u ∧ r < v)))))) (st_h z)) := by
  refine ri_ev (t10_isBehind l _) rfl rfl rfl (Nat.le_of_ble_eq_true rfl) rfl (z10_isBehind l _) (fun J hJ => ?_)
  have vw : vp_in (nI w) 25600 := vp_in_nI hw (by decide)
  have e1 : z.2.1 118 (nI w).toNatClampNeg = nI x := by rw [cl31 (by omega)]; exact h1
  have e2 : z.2.1 119 (nI w).toNatClampNeg = nI u := by rw [cl31 (by omega)]; exact h2
  have e3 : z.2.1 120 (nI w).toNatClampNeg = nI v := by rw [cl31 (by omega)]; exact h3
  refine ri_run_ok hJ [] 90 0 0 0 _ _ _ ?_
  refine ⟨vw, fun q => ⟨vw, fun q2 => ⟨vw, fun q3 => ⟨rfl, ?_, rfl⟩, fun q3 => ⟨rfl, ?_, rfl⟩⟩, fun q2 => ⟨vw, fun q3 => ⟨rfl, ?_, rfl⟩, fun q3 => ⟨rfl, ?_, rfl⟩⟩⟩, fun q => ⟨vw, fun q2 => ⟨rfl, ?_, rfl⟩, fun q2 => ⟨rfl, ?_, rfl⟩⟩⟩
  · have q : z.2.1 118 (nI w).toNatClampNeg = nI sm := q
    have q2 : z.2.1 119 (nI w).toNatClampNeg = nI t := q2
    have q3 : z.2.1 120 (nI w).toNatClampNeg ≤ nI r := q3
    rw [e1, nn_eq hx hs] at q
    rw [e2, nn_eq hu ht] at q2
    rw [e3, nn_le hv hr] at q3
    rw [decide_eq_false (by omega)]; rfl
  · have q : z.2.1 118 (nI w).toNatClampNeg = nI sm := q
    have q2 : z.2.1 119 (nI w).toNatClampNeg = nI t := q2
    have q3 : ¬ z.2.1 120 (nI w).toNatClampNeg ≤ nI r := q3
    rw [e1, nn_eq hx hs] at q
    rw [e2, nn_eq hu ht] at q2
    rw [e3, nn_le hv hr] at q3
    rw [decide_eq_true (by omega)]; rfl
  · have q : z.2.1 118 (nI w).toNatClampNeg = nI sm := q
    have q2 : ¬ z.2.1 119 (nI w).toNatClampNeg = nI t := q2
    have q3 : z.2.1 119 (nI w).toNatClampNeg ≤ nI t := q3
    rw [e1, nn_eq hx hs] at q
    rw [e2, nn_eq hu ht] at q2
    rw [e2, nn_le hu ht] at q3
    rw [decide_eq_false (by omega)]; rfl
  · have q : z.2.1 118 (nI w).toNatClampNeg = nI sm := q
    have q3 : ¬ z.2.1 119 (nI w).toNatClampNeg ≤ nI t := q3
    rw [e1, nn_eq hx hs] at q
    rw [e2, nn_le hu ht] at q3
    rw [decide_eq_true (by omega)]; rfl
  · have q : ¬ z.2.1 118 (nI w).toNatClampNeg = nI sm := q
    have q2 : z.2.1 118 (nI w).toNatClampNeg ≤ nI sm := q2
    rw [e1, nn_eq hx hs] at q
    rw [e1, nn_le hx hs] at q2
    rw [decide_eq_false (by omega)]; rfl
  · have q2 : ¬ z.2.1 118 (nI w).toNatClampNeg ≤ nI sm := q2
    rw [e1, nn_le hx hs] at q2
    rw [decide_eq_true (by omega)]; rfl
theorem WM_put {z : st_T} {w x u v : Nat} {s : Nat} (hw : 4 * s ≤ w ∧ w < 4 * s + 4) : W1 z (fa (fa (fa z 118 (upd (z.2.1 118) w (nI x))) 119 (upd (z.2.1 119) w (nI u))) 120 (upd (z.2.1 120) w (nI v))) s := by
  refine ⟨fun q hq => ⟨?_, ?_, ?_⟩, fun q hq => ?_, mm_tr (mm_tr (mm_fa (by decide)) (mm_fa (by decide))) (mm_fa (by decide))⟩
  · rw [fa_ne _ _ (by decide), fa_ne _ _ (by decide), fa_self, pk_un (by omega)]
  · rw [fa_ne _ _ (by decide), fa_self, pk_un (by omega)]
  · rw [fa_self, pk_un (by omega)]
  · rw [fa_ne _ _ (by decide), fa_ne _ _ (by decide), fa_ne _ _ (by decide)]
theorem ENW_put {z : st_T} {w w' : Nat} {a : Nat × Nat} {D : Nat} {x u v : Int32} (h : ENW z w' a D) (hne : ¬ w' = w) : ENW (fa (fa (fa z 118 (upd (z.2.1 118) w x)) 119 (upd (z.2.1 119) w u)) 120 (upd (z.2.1 120) w v)) w' a D := by
  refine ⟨?_, ?_, ?_⟩
  · rw [fa_ne _ _ (by decide), fa_ne _ _ (by decide), fa_self, pk_un hne]; exact h.1
  · rw [fa_ne _ _ (by decide), fa_self, pk_un hne]; exact h.2.1
  · rw [fa_self, pk_un hne]; exact h.2.2
theorem ENW_new {z : st_T} {w : Nat} {a : Nat × Nat} {D : Nat} {x u v : Int32} (h1 : x = nI a.1) (h2 : u = nI (D + a.2 / 4)) (h3 : v = nI (a.2 % 4)) : ENW (fa (fa (fa z 118 (upd (z.2.1 118) w x)) 119 (upd (z.2.1 119) w u)) 120 (upd (z.2.1 120) w v)) w a D := by
  refine ⟨?_, ?_, ?_⟩
  · rw [fa_ne _ _ (by decide), fa_ne _ _ (by decide), fa_self, pk_us]; exact h1
  · rw [fa_ne _ _ (by decide), fa_self, pk_us]; exact h2
  · rw [fa_self, pk_us]; exact h3
set_option maxHeartbeats 4000000 in
theorem e10_addWay (l : Launch) (z : st_T) {s D : Nat} {L : wy} {a : Nat × Nat} (hs : s < 6400) (hD : D ≤ 6400) (h4 : L.length ≤ 4) (hS : Srt L) (hB : BD (2 ^ 30) L) (ha1 : a.1 < 2 ^ 30) (ha2 : a.2 < 2 ^ 20) (hlt : ∀ b ∈ L, b.2 < a.2) (hL : WM z s L D) : ri_Ev l y10_addWay w10_addWay r10_addWay 0 0 [.ref 117, .int (nI s), .int (nI a.1), .int (nI (D + a.2 / 4)), .int (nI (a.2 % 4))] (st_h z) (ri_zx fun z' => WM z' s (insk 4 L a) D ∧ W1 z z' s) := by
  refine ri_ev (t10_addWay l _) rfl rfl rfl (Nat.le_of_ble_eq_true rfl) rfl (z10_addWay l _) (fun J hJ => ?_)
  obtain ⟨p, hp1, hp2, hp3⟩ := insr_pos (a := a) L
  have hat := insr_at L p hp1 hp2 hp3
  have hgt : ∀ (j : Nat) (b : Nat × Nat), p ≤ j → L[j]? = some b → a.1 < b.1 := by
    intro j b hp hb
    by_cases q : p = j
    · subst q; exact hp3 b hb
    · have hl := (List.getElem?_eq_some_iff.mp hb).1
      have := hp3 _ (List.getElem?_eq_getElem (show p < L.length by omega))
      have := hS p j _ b (by omega) (List.getElem?_eq_getElem (show p < L.length by omega)) hb
      omega
  have vs : vp_in (nI s) 6400 := vp_in_nI hs (by decide)
  have cs : (nI s).toNatClampNeg = s := cl31 (by omega)
  have e5 : z.2.1 121 (nI s).toNatClampNeg = nI L.length := by rw [cs]; exact hL.1
  have hkl : (insk 4 L a).length = min 4 (L.length + 1) := insk_len 4 L
  have hk : ∀ j, (insk 4 L a)[j]? = if j < 4 then (insr a L)[j]? else none := fun j => by unfold insk; rw [List.getElem?_take]
  -- where it goes
  have put : p < 4 → ∀ z1 : st_T, W1 z z1 s → (∀ (j : Nat) (b : Nat × Nat), L[j]? = some b → (j < p → ENW z1 (4 * s + j) b D) ∧ (p ≤ j → j < 3 → ENW z1 (4 * s + (j + 1)) b D)) → z1.2.1 121 s = nI L.length → ∀ o7 o8, J 96 0 0 [some (.ref 117), some (.int (nI s)), some (.int (nI a.1)), some (.int (nI (D + a.2 / 4))), some (.int (nI (a.2 % 4))), some (.int (nI L.length)), some (.int (nI p)), o7, o8] [] (st_h z1) := by
    intro hp4 z1 hW1 hE hw1 o7 o8
    have ei : 4 * nI s + nI p = nI (4 * s + p) := ix4d
    have vi : vp_in (4 * nI s + nI p) 25600 := by rw [ei]; exact vp_in_nI (by omega) (by decide)
    have ci : (4 * nI s + nI p).toNatClampNeg = 4 * s + p := by rw [ei]; exact cl31 (by omega)
    have fin : ∀ x : Int32, x = nI (min 4 (L.length + 1)) → ri_zx (fun z' => WM z' s (insk 4 L a) D ∧ W1 z z' s) none (st_h (fa (fa (fa (fa z1 118 (upd (z1.2.1 118) (4 * nI s + nI p).toNatClampNeg (nI a.1))) 119 (upd (z1.2.1 119) (4 * nI s + nI p).toNatClampNeg (nI (D + a.2 / 4)))) 120 (upd (z1.2.1 120) (4 * nI s + nI p).toNatClampNeg (nI (a.2 % 4)))) 121 (upd (z1.2.1 121) (nI s).toNatClampNeg x))) := by
      intro x hx
      refine ⟨rfl, _, rfl, ⟨?_, fun j b hb => ?_⟩, ?_⟩
      · rw [fa_self, cs, pk_us, hx, hkl]
      · rw [hk] at hb
        have hj4 : j < 4 := Decidable.byContradiction (fun h => by rw [if_neg h] at hb; cases hb)
        rw [if_pos hj4, hat] at hb
        have mv : ∀ w, ENW (fa (fa (fa z1 118 (upd (z1.2.1 118) (4 * nI s + nI p).toNatClampNeg (nI a.1))) 119 (upd (z1.2.1 119) (4 * nI s + nI p).toNatClampNeg (nI (D + a.2 / 4)))) 120 (upd (z1.2.1 120) (4 * nI s + nI p).toNatClampNeg (nI (a.2 % 4)))) w b D → ENW (fa (fa (fa (fa z1 118 (upd (z1.2.1 118) (4 * nI s + nI p).toNatClampNeg (nI a.1))) 119 (upd (z1.2.1 119) (4 * nI s + nI p).toNatClampNeg (nI (D + a.2 / 4)))) 120 (upd (z1.2.1 120) (4 * nI s + nI p).toNatClampNeg (nI (a.2 % 4)))) 121 (upd (z1.2.1 121) (nI s).toNatClampNeg x)) w b D := by
          intro w h
          refine ⟨?_, ?_, ?_⟩
          · rw [fa_ne _ _ (by decide)]; exact h.1
          · rw [fa_ne _ _ (by decide)]; exact h.2.1
          · rw [fa_ne _ _ (by decide)]; exact h.2.2
        refine mv _ ?_
        rw [ci]
        by_cases q1 : j < p
        · rw [if_pos q1] at hb
          exact ENW_put ((hE j b hb).1 q1) (by omega)
        · rw [if_neg q1] at hb
          by_cases q2 : j = p
          · rw [if_pos q2] at hb
            cases hb
            rw [q2]
            exact ENW_new rfl rfl rfl
          · rw [if_neg q2] at hb
            have := (hE (j - 1) b hb).2 (by omega) (by omega)
            rw [show j - 1 + 1 = j by omega] at this
            exact ENW_put this (by omega)
      · refine W1_tr (W1_tr hW1 (WM_put (s := s) (w := (4 * nI s + nI p).toNatClampNeg) (by omega))) ⟨fun q hq => ⟨?_, ?_, ?_⟩, fun q hq => ?_, mm_fa (by decide)⟩
        · rw [fa_ne _ _ (by decide)]
        · rw [fa_ne _ _ (by decide)]
        · rw [fa_ne _ _ (by decide)]
        · rw [fa_self, cs, pk_un hq]; rfl
    refine ri_go hJ [] 90 96 rfl ?_
    refine ⟨vi, vi, vi, fun q => ⟨vs, fin 4 ?_⟩, fun q => ⟨vs, fin (nI L.length + 1) ?_⟩⟩
    · have q : nI 4 ≤ nI L.length := q
      rw [nn_le (by decide) (by omega)] at q
      rw [show min 4 (L.length + 1) = 4 by omega]; rfl
    · have q : ¬ nI 4 ≤ nI L.length := q
      rw [nn_le (by decide) (by omega)] at q
      rw [show min 4 (L.length + 1) = L.length + 1 by omega]; exact nI_1 _
  -- the others give way
  have sh : p < 4 → ∀ m i, m + p = i → i ≤ min L.length 3 → ∀ z1 : st_T, W1 z z1 s → (∀ (j : Nat) (b : Nat × Nat), L[j]? = some b → (j ≤ i → j < 4 → j < i ∨ L.length = i ∨ i = 3 → ENW z1 (4 * s + j) b D ∨ i < j) ∧ (i ≤ j → j < 3 → ENW z1 (4 * s + (j + 1)) b D)) → (∀ (j : Nat) (b : Nat × Nat), L[j]? = some b → j < i → ENW z1 (4 * s + j) b D) → z1.2.1 121 s = nI L.length → ∀ o7, J 37 0 0 [some (.ref 117), some (.int (nI s)), some (.int (nI a.1)), some (.int (nI (D + a.2 / 4))), some (.int (nI (a.2 % 4))), some (.int (nI L.length)), some (.int (nI p)), o7, some (.int (nI i))] [] (st_h z1) := by
    intro hp4 m
    induction m with
    | zero =>
      intro i hi hil z1 hW1 hE hE0 hw1 o7
      have hip : i = p := by omega
      subst hip
      refine ri_go hJ [96] 90 37 rfl ?_
      refine ⟨fun _ => put hp4 z1 hW1 (fun j b hb => ⟨fun h => hE0 j b hb h, fun h1 h2 => (hE j b hb).2 h1 h2⟩) hw1 _ _, fun q => absurd (show nI i ≤ nI i from nI_le (Nat.le_refl _) (by omega)) q⟩
    | succ m ih =>
      intro i hi hil z1 hW1 hE hE0 hw1 o7
      obtain ⟨i', rfl⟩ : ∃ i', i = i' + 1 := ⟨i - 1, by omega⟩
      have em : nI (i' + 1) + (-1) = nI i' := pk_m1 i'
      have ei : 4 * nI s + nI (i' + 1) = nI (4 * s + (i' + 1)) := ix4d
      have ei0 : 4 * nI s + nI (i' + 1) - 1 = nI (4 * s + i') := by rw [ei, show 4 * s + (i' + 1) = (4 * s + i') + 1 by omega, nI_pred]
      have vi : vp_in (4 * nI s + nI (i' + 1)) 25600 := by rw [ei]; exact vp_in_nI (by omega) (by decide)
      have vi0 : vp_in (4 * nI s + nI (i' + 1) - 1) 25600 := by rw [ei0]; exact vp_in_nI (by omega) (by decide)
      have ci : (4 * nI s + nI (i' + 1)).toNatClampNeg = 4 * s + (i' + 1) := by rw [ei]; exact cl31 (by omega)
      have ci0 : (4 * nI s + nI (i' + 1) - 1).toNatClampNeg = 4 * s + i' := by rw [ei0]; exact cl31 (by omega)
      obtain ⟨b, hb⟩ : ∃ b, L[i']? = some b := ⟨_, List.getElem?_eq_getElem (by omega)⟩
      have hbE := hE0 i' b hb (by omega)
      refine ri_go hJ [37] 90 37 rfl ?_
      refine ⟨fun q => absurd (show nI (i' + 1) ≤ nI p from q) (by rw [nn_le (by omega) (by omega)]; omega), fun _ => ⟨vi0, vi, vi0, vi, vi0, vi, ?_⟩⟩
      have := ih i' (by omega) (by omega) (fa (fa (fa z1 118 (upd (z1.2.1 118) (4 * s + (i' + 1)) (nI b.1))) 119 (upd (z1.2.1 119) (4 * s + (i' + 1)) (nI (D + b.2 / 4)))) 120 (upd (z1.2.1 120) (4 * s + (i' + 1)) (nI (b.2 % 4)))) (W1_tr hW1 (WM_put (by omega))) (fun j c hc => ⟨fun h1 h2 h3 => ?_, fun h1 h2 => ?_⟩) (fun j c hc hj => ENW_put (hE0 j c hc (by omega)) (by omega)) ?_ o7
      · rw [← em, ← hbE.1, ← hbE.2.1, ← hbE.2.2, ← ci, ← ci0] at this
        exact this
      · exact Or.inl (ENW_put (hE0 j c hc (by omega)) (by omega))
      · rcases Nat.eq_or_lt_of_le h1 with e | e
        · subst e
          rw [hb] at hc
          cases hc
          exact ENW_new rfl rfl rfl
        · exact ENW_put ((hE j c hc).2 (by omega) h2) (by omega)
      · rw [fa_ne _ _ (by decide), fa_ne _ _ (by decide), fa_ne _ _ (by decide)]; exact hw1
  -- the place among the others
  have fd : ∀ m k, m + p = k → k ≤ L.length → ∀ o7 o8, J 7 0 0 [some (.ref 117), some (.int (nI s)), some (.int (nI a.1)), some (.int (nI (D + a.2 / 4))), some (.int (nI (a.2 % 4))), some (.int (nI L.length)), some (.int (nI k)), o7, o8] [] (st_h z) := by
    have hb30 : ∀ (j : Nat) (b : Nat × Nat), L[j]? = some b → b.1 < 2 ^ 30 ∧ b.2 < 2 ^ 20 := fun j b hb => ⟨(hB j b hb).1, by have := hlt b (List.mem_of_getElem? hb); omega⟩
    have k24 : ∀ o7 o8, J 24 0 0 [some (.ref 117), some (.int (nI s)), some (.int (nI a.1)), some (.int (nI (D + a.2 / 4))), some (.int (nI (a.2 % 4))), some (.int (nI L.length)), some (.int (nI p)), o7, o8] [] (st_h z) := by
      intro o7 o8
      have k34 : p < 4 → ∀ (i : Nat) (u : Int32), u = nI i → i = min L.length 3 → J 34 0 0 [some (.ref 117), some (.int (nI s)), some (.int (nI a.1)), some (.int (nI (D + a.2 / 4))), some (.int (nI (a.2 % 4))), some (.int (nI L.length)), some (.int (nI p)), o7, o8] [.int u] (st_h z) := by
        intro hp4 i u hu hi
        refine ri_go hJ [37] 90 34 rfl ?_
        rw [hu]
        exact sh hp4 (i - p) i (by omega) (by omega) z (W1_rf z s) (fun j b hb => ⟨fun h1 h2 h3 => Or.inl (hL.2 j b hb), fun h1 h2 => by have := (List.getElem?_eq_some_iff.mp hb).1; omega⟩) (fun j b hb _ => hL.2 j b hb) hL.1 _
      refine ri_go hJ [34] 90 24 rfl ?_
      refine ⟨fun q => ?_, fun q => ⟨rfl, z, rfl, ?_, W1_rf z s⟩⟩
      · have q : ¬ nI p = nI 4 := q
        rw [nn_eq (by omega) (by decide)] at q
        refine ⟨fun q2 => k34 (by omega) 3 3 rfl ?_, fun q2 => k34 (by omega) L.length _ rfl ?_⟩
        · have q2 : nI 4 ≤ nI L.length := q2
          rw [nn_le (by decide) (by omega)] at q2
          omega
        · have q2 : ¬ nI 4 ≤ nI L.length := q2
          rw [nn_le (by decide) (by omega)] at q2
          omega
      · have q : nI p = nI 4 := Decidable.not_not.mp q
        rw [nn_eq (by omega) (by decide)] at q
        have e : insk 4 L a = L := by
          refine List.ext_getElem? (fun j => ?_)
          rw [hk]
          by_cases hj : j < 4
          · rw [if_pos hj, hat, if_pos (by omega)]
          · rw [if_neg hj, List.getElem?_eq_none (by omega)]
        rw [e]; exact hL
    intro m
    induction m with
    | zero =>
      intro k hk' hkl' o7 o8
      have hkp : k = p := by omega
      subst hkp
      refine ri_go hJ [24] 90 7 rfl ?_
      refine ⟨fun _ => k24 _ _, fun q => ?_⟩
      have q : ¬ nI k ≤ nI 0 := q
      rw [nn_le (by omega) (by decide)] at q
      obtain ⟨k', rfl⟩ : ∃ k', k = k' + 1 := ⟨k - 1, by omega⟩
      have ei0 : 4 * nI s + nI (k' + 1) - 1 = nI (4 * s + k') := by rw [show 4 * nI s + nI (k' + 1) = nI (4 * s + (k' + 1)) from ix4d, show 4 * s + (k' + 1) = (4 * s + k') + 1 by omega, nI_pred]
      obtain ⟨b, hb⟩ : ∃ b, L[k']? = some b := ⟨_, List.getElem?_eq_getElem (by omega)⟩
      have hbE := hL.2 k' b hb
      have h30 := hb30 k' b hb
      have hle := hp2 k' b (by omega) hb
      have hlk := hlt b (List.mem_of_getElem? hb)
      have eb := e10_isBehind l z (w := 4 * s + k') (sm := a.1) (t := D + a.2 / 4) (r := a.2 % 4) (by omega) hbE.1 hbE.2.1 hbE.2.2 (by omega) (by omega) (by omega) (by omega) (by omega) (by omega)
      rw [← ei0] at eb
      refine ⟨_, eb, ?_⟩
      rintro r h' ⟨rfl, rfl⟩
      refine ⟨fun _ => k24 _ _, fun q2 => absurd (zb_1.mp q2) ?_⟩
      rw [decide_eq_true_iff]; omega
    | succ m ih =>
      intro k hk' hkl' o7 o8
      obtain ⟨k', rfl⟩ : ∃ k', k = k' + 1 := ⟨k - 1, by omega⟩
      have em : nI (k' + 1) + (-1) = nI k' := pk_m1 k'
      have ei0 : 4 * nI s + nI (k' + 1) - 1 = nI (4 * s + k') := by rw [show 4 * nI s + nI (k' + 1) = nI (4 * s + (k' + 1)) from ix4d, show 4 * s + (k' + 1) = (4 * s + k') + 1 by omega, nI_pred]
      obtain ⟨b, hb⟩ : ∃ b, L[k']? = some b := ⟨_, List.getElem?_eq_getElem (by omega)⟩
      have hbE := hL.2 k' b hb
      have h30 := hb30 k' b hb
      have hg := hgt k' b (by omega) hb
      have eb := e10_isBehind l z (w := 4 * s + k') (sm := a.1) (t := D + a.2 / 4) (r := a.2 % 4) (by omega) hbE.1 hbE.2.1 hbE.2.2 (by omega) (by omega) (by omega) (by omega) (by omega) (by omega)
      rw [← ei0] at eb
      refine ri_go hJ [7] 90 7 rfl ?_
      refine ⟨fun q => absurd (show nI (k' + 1) ≤ nI 0 from q) (by rw [nn_le (by omega) (by decide)]; omega), fun _ => ⟨_, eb, ?_⟩⟩
      rintro r h' ⟨rfl, rfl⟩
      refine ⟨fun q2 => absurd (zb_0.mp q2) ?_, fun _ => ?_⟩
      · rw [decide_eq_true (Or.inl hg)]; decide
      · have := ih k' (by omega) (by omega) o7 o8
        rw [← em] at this
        exact this
  refine ri_run_ok hJ [7] 90 0 0 0 _ _ _ ?_
  refine ⟨vs, ?_⟩
  have := fd (L.length - p) L.length (by omega) (Nat.le_refl _) none none
  rw [← e5] at this
  exact this
