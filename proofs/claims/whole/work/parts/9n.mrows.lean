/-! THE REFERENCE: takeRows -/
def ENR (z : st_T) (j : Nat) (a : Nat × Nat) : Prop := z.2.1 126 j = nI a.1 ∧ z.2.1 128 j = nI (a.2 / 4) ∧ z.2.1 129 j = nI (a.2 % 4)
def TR (z : st_T) (L : wy) : Prop := z.1 101 26 = nI L.length ∧ ∀ (j : Nat) (a : Nat × Nat), L[j]? = some a → ENR z j a
theorem ENR_put {z : st_T} {w w' : Nat} {a : Nat × Nat} {x u v : Int32} (h : ENR z w' a) (hne : ¬ w' = w) : ENR (fa (fa (fa z 126 (upd (z.2.1 126) w x)) 128 (upd (z.2.1 128) w u)) 129 (upd (z.2.1 129) w v)) w' a := by
  refine ⟨?_, ?_, ?_⟩
  · rw [fa_ne _ _ (by decide), fa_ne _ _ (by decide), fa_self, pk_un hne]; exact h.1
  · rw [fa_ne _ _ (by decide), fa_self, pk_un hne]; exact h.2.1
  · rw [fa_self, pk_un hne]; exact h.2.2
theorem ENR_new {z : st_T} {w : Nat} {a : Nat × Nat} {x u v : Int32} (h1 : x = nI a.1) (h2 : u = nI (a.2 / 4)) (h3 : v = nI (a.2 % 4)) : ENR (fa (fa (fa z 126 (upd (z.2.1 126) w x)) 128 (upd (z.2.1 128) w u)) 129 (upd (z.2.1 129) w v)) w a := by
  refine ⟨?_, ?_, ?_⟩
  · rw [fa_ne _ _ (by decide), fa_ne _ _ (by decide), fa_self, pk_us]; exact h1
  · rw [fa_ne _ _ (by decide), fa_self, pk_us]; exact h2
  · rw [fa_self, pk_us]; exact h3
theorem mm_put {z : st_T} {w : Nat} {x u v : Int32} : mm [26] [126, 128, 129] z (fa (fa (fa z 126 (upd (z.2.1 126) w x)) 128 (upd (z.2.1 128) w u)) 129 (upd (z.2.1 129) w v)) := mm_tr (mm_tr (mm_fa (by decide)) (mm_fa (by decide))) (mm_fa (by decide))
set_option maxHeartbeats 4000000 in
theorem tr_ins {l : Launch} {Po : ri_O} {J : ri_K} (hJ : ri_clo J (t10_takeRows l Po)) {L : wy} {s k sm : Nat} (hs : s < 2 ^ 20) (hk : k < 4) (hsm : sm < 2 ^ 30) (h4 : L.length ≤ 4) (hS : Srt L) (hB : BD (2 ^ 30) L) {z : st_T} (hT : TR z L) (next : ∀ z2, TR z2 (insk 4 L (sm, 4 * s + k)) → mm [26] [126, 128, 129] z z2 → ∀ o4 o5, J 122 0 0 [some (.ref 117), some (.int (nI s)), some (.int (nI k)), some (.int (nI sm)), o4, o5] [] (st_h z2)) (o4 o5 : Option Value) : J 33 0 0 [some (.ref 117), some (.int (nI s)), some (.int (nI k)), some (.int (nI sm)), o4, o5] [] (st_h z) := by
  obtain ⟨p, hp1, hp2, hp3⟩ := insr_pos (a := (sm, 4 * s + k)) L
  have hat := insr_at L p hp1 hp2 hp3
  have hgt : ∀ (j : Nat) (b : Nat × Nat), p ≤ j → L[j]? = some b → sm < b.1 := by
    intro j b hp hb
    by_cases q : p = j
    · subst q; exact hp3 b hb
    · have hl := (List.getElem?_eq_some_iff.mp hb).1
      have h1 : sm < _ := hp3 _ (List.getElem?_eq_getElem (show p < L.length by omega))
      have := hS p j _ b (by omega) (List.getElem?_eq_getElem (show p < L.length by omega)) hb
      omega
  have hkl : (insk 4 L (sm, 4 * s + k)).length = min 4 (L.length + 1) := insk_len 4 L
  have hki : ∀ j, (insk 4 L (sm, 4 * s + k))[j]? = if j < 4 then (insr (sm, 4 * s + k) L)[j]? else none := fun j => by unfold insk; rw [List.getElem?_take]
  have d1 : (4 * s + k) / 4 = s := by omega
  have d2 : (4 * s + k) % 4 = k := by omega
  have put : p < 4 → ∀ z1 : st_T, mm [26] [126, 128, 129] z z1 → z1.1 101 26 = nI L.length → (∀ (j : Nat) (b : Nat × Nat), L[j]? = some b → (j < p → ENR z1 j b) ∧ (p ≤ j → j < 3 → ENR z1 (j + 1) b)) → ∀ o5, J 95 0 0 [some (.ref 117), some (.int (nI s)), some (.int (nI k)), some (.int (nI sm)), some (.int (nI p)), o5] [] (st_h z1) := by
    intro hp4 z1 hm h26 hE o5
    have vi : vp_in (nI p) 4 := vp_in_nI hp4 (by decide)
    have ci : (nI p).toNatClampNeg = p := cl31 (by omega)
    have fin : ∀ x : Int32, x = nI (min 4 (L.length + 1)) → J 122 0 0 [some (.ref 117), some (.int (nI s)), some (.int (nI k)), some (.int (nI sm)), some (.int (nI p)), o5] [] (st_h (fs (fa (fa (fa z1 126 (upd (z1.2.1 126) (nI p).toNatClampNeg (nI sm))) 128 (upd (z1.2.1 128) (nI p).toNatClampNeg (nI s))) 129 (upd (z1.2.1 129) (nI p).toNatClampNeg (nI k))) 101 26 x)) := by
      intro x hx
      refine next _ ⟨?_, fun j b hb => ?_⟩ (mm_tr hm (mm_tr mm_put (mm_fs (by decide)))) _ _
      · rw [fs_self, hx, hkl]
      · rw [hki] at hb
        have hj4 : j < 4 := Decidable.byContradiction (fun h => by rw [if_neg h] at hb; cases hb)
        rw [if_pos hj4, hat] at hb
        show ENR (fa (fa (fa z1 126 (upd (z1.2.1 126) (nI p).toNatClampNeg (nI sm))) 128 (upd (z1.2.1 128) (nI p).toNatClampNeg (nI s))) 129 (upd (z1.2.1 129) (nI p).toNatClampNeg (nI k))) j b
        rw [ci]
        by_cases q1 : j < p
        · rw [if_pos q1] at hb
          exact ENR_put ((hE j b hb).1 q1) (by omega)
        · rw [if_neg q1] at hb
          by_cases q2 : j = p
          · rw [if_pos q2] at hb
            cases hb
            rw [q2]
            exact ENR_new rfl (congrArg nI d1.symm) (congrArg nI d2.symm)
          · rw [if_neg q2] at hb
            have := (hE (j - 1) b hb).2 (by omega) (by omega)
            rw [show j - 1 + 1 = j by omega] at this
            exact ENR_put this (by omega)
    refine ri_go hJ [122] 90 95 rfl ?_
    refine ⟨vi, vi, vi, fun q => fin 4 ?_, fun q => ?_⟩
    · have q : nI 4 ≤ z1.1 101 26 := q
      rw [h26, nn_le (by decide) (by omega)] at q
      rw [show min 4 (L.length + 1) = 4 by omega]; rfl
    · have q : ¬ nI 4 ≤ z1.1 101 26 := q
      rw [h26, nn_le (by decide) (by omega)] at q
      refine fin (z1.1 101 26 + 1) ?_
      rw [h26, show min 4 (L.length + 1) = L.length + 1 by omega]; exact nI_1 _
  have sh : p < 4 → ∀ m i, m + p = i → i ≤ min L.length 3 → ∀ z1 : st_T, mm [26] [126, 128, 129] z z1 → z1.1 101 26 = nI L.length → (∀ (j : Nat) (b : Nat × Nat), L[j]? = some b → i ≤ j → j < 3 → ENR z1 (j + 1) b) → (∀ (j : Nat) (b : Nat × Nat), L[j]? = some b → j < i → ENR z1 j b) → J 60 0 0 [some (.ref 117), some (.int (nI s)), some (.int (nI k)), some (.int (nI sm)), some (.int (nI p)), some (.int (nI i))] [] (st_h z1) := by
    intro hp4 m
    induction m with
    | zero =>
      intro i hi hil z1 hm h26 hE hE0
      have hip : i = p := by omega
      subst hip
      refine ri_go hJ [95] 90 60 rfl ?_
      exact ⟨fun _ => put hp4 z1 hm h26 (fun j b hb => ⟨fun h => hE0 j b hb h, fun h1 h2 => hE j b hb h1 h2⟩) _, fun q => absurd (show nI i ≤ nI i from nI_le (Nat.le_refl _) (by omega)) q⟩
    | succ m ih =>
      intro i hi hil z1 hm h26 hE hE0
      obtain ⟨i', rfl⟩ : ∃ i', i = i' + 1 := ⟨i - 1, by omega⟩
      have em : nI (i' + 1) + (-1) = nI i' := pk_m1 i'
      have vi : vp_in (nI (i' + 1)) 4 := vp_in_nI (by omega) (by decide)
      have vi0 : vp_in (nI (i' + 1) - 1) 4 := by rw [nI_pred]; exact vp_in_nI (by omega) (by decide)
      have ci : (nI (i' + 1)).toNatClampNeg = i' + 1 := cl31 (by omega)
      have ci0 : (nI (i' + 1) - 1).toNatClampNeg = i' := by rw [nI_pred]; exact cl31 (by omega)
      obtain ⟨b, hb⟩ : ∃ b, L[i']? = some b := ⟨_, List.getElem?_eq_getElem (by omega)⟩
      have hbE := hE0 i' b hb (by omega)
      refine ri_go hJ [60] 90 60 rfl ?_
      refine ⟨fun q => absurd (show nI (i' + 1) ≤ nI p from q) (by rw [nn_le (by omega) (by omega)]; omega), fun _ => ⟨vi0, vi, vi0, vi, vi0, vi, ?_⟩⟩
      have := ih i' (by omega) (by omega) (fa (fa (fa z1 126 (upd (z1.2.1 126) (nI (i' + 1)).toNatClampNeg (z1.2.1 126 (nI (i' + 1) - 1).toNatClampNeg))) 128 (upd (z1.2.1 128) (nI (i' + 1)).toNatClampNeg (z1.2.1 128 (nI (i' + 1) - 1).toNatClampNeg))) 129 (upd (z1.2.1 129) (nI (i' + 1)).toNatClampNeg (z1.2.1 129 (nI (i' + 1) - 1).toNatClampNeg))) (mm_tr hm mm_put) h26 (fun j c hc h1 h2 => ?_) (fun j c hc hj => ?_)
      · rw [← em] at this
        exact this
      · rw [ci, ci0]
        rcases Nat.eq_or_lt_of_le h1 with e | e
        · subst e
          rw [hb] at hc
          cases hc
          exact ENR_new hbE.1 hbE.2.1 hbE.2.2
        · exact ENR_put (hE j c hc (by omega) h2) (by omega)
      · rw [ci]
        exact ENR_put (hE0 j c hc (by omega)) (by omega)
  have k48 : ∀ o5, J 48 0 0 [some (.ref 117), some (.int (nI s)), some (.int (nI k)), some (.int (nI sm)), some (.int (nI p)), o5] [] (st_h z) := by
    intro o5
    have k59 : p < 4 → ∀ (i : Nat) (u : Int32), u = nI i → i = min L.length 3 → J 59 0 0 [some (.ref 117), some (.int (nI s)), some (.int (nI k)), some (.int (nI sm)), some (.int (nI p)), o5] [.int u] (st_h z) := by
      intro hp4 i u hu hi
      refine ri_go hJ [60] 90 59 rfl ?_
      rw [hu]
      exact sh hp4 (i - p) i (by omega) (by omega) z (mm_rf _ _ _) hT.1 (fun j b hb h1 h2 => by have := (List.getElem?_eq_some_iff.mp hb).1; omega) (fun j b hb _ => hT.2 j b hb)
    refine ri_go hJ [122, 59] 90 48 rfl ?_
    refine ⟨fun q => next z ?_ (mm_rf _ _ _) _ _, fun q => ?_⟩
    · have q : nI 4 ≤ nI p := q
      rw [nn_le (by decide) (by omega)] at q
      have e : insk 4 L (sm, 4 * s + k) = L := by
        refine List.ext_getElem? (fun j => ?_)
        rw [hki]
        by_cases hj : j < 4
        · rw [if_pos hj, hat, if_pos (by omega)]
        · rw [if_neg hj, List.getElem?_eq_none (by omega)]
      rw [e]; exact hT
    · have q : ¬ nI 4 ≤ nI p := q
      rw [nn_le (by decide) (by omega)] at q
      refine ⟨fun q2 => k59 (by omega) 3 3 rfl ?_, fun q2 => k59 (by omega) L.length _ hT.1 ?_⟩
      · have q2 : nI 4 ≤ z.1 101 26 := q2
        rw [hT.1, nn_le (by decide) (by omega)] at q2
        omega
      · have q2 : ¬ nI 4 ≤ z.1 101 26 := q2
        rw [hT.1, nn_le (by decide) (by omega)] at q2
        omega
  have fd : ∀ m q, m + p = q → q ≤ L.length → ∀ o5, J 36 0 0 [some (.ref 117), some (.int (nI s)), some (.int (nI k)), some (.int (nI sm)), some (.int (nI q)), o5] [] (st_h z) := by
    intro m
    induction m with
    | zero =>
      intro q hq hql o5
      have hqp : q = p := by omega
      subst hqp
      refine ri_go hJ [48] 90 36 rfl ?_
      refine ⟨fun _ => k48 _, fun c => ?_⟩
      have c : ¬ nI q ≤ nI 0 := c
      rw [nn_le (by omega) (by decide)] at c
      obtain ⟨q', rfl⟩ : ∃ q', q = q' + 1 := ⟨q - 1, by omega⟩
      obtain ⟨b, hb⟩ : ∃ b, L[q']? = some b := ⟨_, List.getElem?_eq_getElem (by omega)⟩
      have hbE := (hT.2 q' b hb).1
      have hle : b.1 ≤ sm := hp2 q' b (by omega) hb
      have ec : z.2.1 126 (nI (q' + 1) - 1).toNatClampNeg = nI b.1 := by rw [nI_pred, cl31 (by omega)]; exact hbE
      refine ⟨by show vp_in (nI (q' + 1) - 1) 4; rw [nI_pred]; exact vp_in_nI (by omega) (by decide), fun _ => k48 _, fun c2 => absurd (show z.2.1 126 (nI (q' + 1) - 1).toNatClampNeg ≤ nI sm from ?_) c2⟩
      rw [ec, nn_le (by omega) (by omega)]; exact hle
    | succ m ih =>
      intro q hq hql o5
      obtain ⟨q', rfl⟩ : ∃ q', q = q' + 1 := ⟨q - 1, by omega⟩
      have em : nI (q' + 1) + (-1) = nI q' := pk_m1 q'
      obtain ⟨b, hb⟩ : ∃ b, L[q']? = some b := ⟨_, List.getElem?_eq_getElem (by omega)⟩
      have hbE := (hT.2 q' b hb).1
      have hg := hgt q' b (by omega) hb
      have hbb := (hB q' b hb).1
      have ec : z.2.1 126 (nI (q' + 1) - 1).toNatClampNeg = nI b.1 := by rw [nI_pred, cl31 (by omega)]; exact hbE
      refine ri_go hJ [36] 90 36 rfl ?_
      refine ⟨fun c => absurd (show nI (q' + 1) ≤ nI 0 from c) (by rw [nn_le (by omega) (by decide)]; omega), fun _ => ⟨by show vp_in (nI (q' + 1) - 1) 4; rw [nI_pred]; exact vp_in_nI (by omega) (by decide), fun c2 => absurd (show z.2.1 126 (nI (q' + 1) - 1).toNatClampNeg ≤ nI sm from c2) (by rw [ec, nn_le (by omega) (by omega)]; omega), fun _ => ?_⟩⟩
      have := ih q' (by omega) (by omega) o5
      rw [← em] at this
      exact this
  refine ri_go hJ [36] 90 33 rfl ?_
  have := fd (L.length - p) L.length (by omega) (Nat.le_refl _) o5
  rw [← hT.1] at this
  exact this
