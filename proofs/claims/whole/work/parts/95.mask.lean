/-! THE REFERENCE: places; what it is asked about rows -/
def CM (z z' : st_T) (n i v : Nat) : Prop := (∀ j, j < 64 → z'.2.1 106 j = if 4 * n ≤ j ∧ j < 4 * i + v then -2 else z.2.1 106 j) ∧ (∀ j, j < 16 → z'.2.1 107 j = (if n ≤ j ∧ j < i then -2 else z.2.1 107 j) ∧ z'.2.1 108 j = (if n ≤ j ∧ j < i then -2 else z.2.1 108 j) ∧ z'.2.1 109 j = (if n ≤ j ∧ j < i then 0 else z.2.1 109 j))
set_option maxHeartbeats 1000000 in
theorem e10_places (l : Launch) (z : st_T) (T : tT) (Q : tQ) (hI : MI z T Q) (n : Int32) : ri_Ev l y10_places w10_places r10_places 0 0 [.ref 117, .int n] (st_h z) (MO z (sp_places T Q n)) := by
  obtain ⟨hM, hQ⟩ := id hI
  have hM0 := RM_mm hM (m0_mm z) (by decide) (by decide)
  refine ri_ev (t10_places l _) rfl rfl rfl (Nat.le_of_ble_eq_true rfl) rfl (z10_places l _) (fun J hJ => ?_)
  have bad : bt 1 n 16 = false → MO z (sp_places T Q n) (some (.int (-1))) (st_h (m0 z)) := fun h => MO_same hI (by unfold sp_places; rw [h]; rfl)
  have loop : bt 1 n 16 = true → ∀ m i, m + i = 16 → nt n ≤ i → ∀ z1 : st_T, CM z z1 (nt n) i 0 → z1.1 101 7 = n → mm [0, 7, 26] [106, 107, 108, 109] z z1 → ∀ o, J 19 0 0 [some (.ref 117), some (.int n), some (.int (z.1 101 7)), some (.int (nI i)), o] [] (st_h z1) := by
    intro b1
    obtain ⟨n1, n2, n3⟩ := nt_ge (k := 1) (m := 16) (by decide) (by decide) b1
    intro m
    induction m with
    | zero =>
      intro i hi hni z1 hc h7 hm o
      have hi16 : i = 16 := by omega
      subst hi16
      refine ri_go hJ [] 90 19 rfl ?_
      refine ⟨fun _ => ?_, fun c => absurd (by decide) c⟩
      refine MO_put (v := z.1 101 7) (qs := [0, 7, 26]) (ps := [106, 107, 108, 109]) (T := clT T (nt n)) ?_ ?_ hm (by decide) (by decide)
      · unfold sp_places
        rw [b1, hM.1.2.2]; rfl
      · obtain ⟨⟨a1, a2, a3⟩, s1, s2, s3, s4, s5, s6, s7⟩ := hM
        refine ⟨⟨?_, ?_, ?_⟩, fun j hj => ?_, fun j hj => ?_, fun j hj => ?_, fun j hj => ?_, fun j hj => ?_, fun j hj => ?_, fun j hj => ?_⟩
        · rw [hm.2.1 5 (by decide)]; exact a1
        · rw [hm.2.1 6 (by decide)]; exact a2
        · rw [h7]; exact n3.symm
        · rw [hc.1 j hj, clT_0]
          by_cases q : 4 * nt n ≤ j
          · rw [if_pos ⟨q, by omega⟩, if_pos q]; rfl
          · rw [if_neg (by omega), if_neg q]; exact s1 j hj
        · obtain ⟨d1, d2, d3⟩ := hc.2 j hj
          rw [d1, d2, d3, clT_1, clT_2, clT_3]
          by_cases q : nt n ≤ j
          · have q2 : nt n ≤ j ∧ j < 16 := ⟨q, hj⟩
            simp only [if_pos q2, if_pos q]
            exact ⟨rfl, rfl, rfl⟩
          · have q2 : ¬ (nt n ≤ j ∧ j < 16) := fun h => q h.1
            simp only [if_neg q2, if_neg q]
            exact s2 j hj
        · rw [hm.1 110 (by decide)]; exact s3 j hj
        · rw [hm.1 111 (by decide)]; exact s4 j hj
        · rw [hm.1 112 (by decide), hm.1 113 (by decide)]; exact s5 j hj
        · rw [hm.1 102 (by decide), hm.1 103 (by decide)]; exact s6 j hj
        · rw [hm.1 104 (by decide), hm.1 105 (by decide)]; exact s7 j hj
    | succ m ih =>
      intro i hi hni z1 hc h7 hm o
      have e1 := nI_1 i
      have inner : ∀ m' v, m' + v = 4 → ∀ z2 : st_T, CM z z2 (nt n) i v → z2.1 101 7 = n → mm [0, 7, 26] [106, 107, 108, 109] z z2 → J 24 0 0 [some (.ref 117), some (.int n), some (.int (z.1 101 7)), some (.int (nI i)), some (.int (nI v))] [] (st_h z2) := by
        intro m'
        induction m' with
        | zero =>
          intro v hv z2 hc2 h72 hm2
          have hv4 : v = 4 := by omega
          subst hv4
          have ii : vp_in (nI i) 16 := vp_in_nI (by omega) (by decide)
          have ci : (nI i).toNatClampNeg = i := cl31 (by omega)
          refine ri_go hJ [19] 90 24 rfl ?_
          refine ⟨fun _ => ⟨ii, ii, ii, ?_⟩, fun c => absurd (by decide) c⟩
          have := ih (i + 1) (by omega) (by omega) (fa (fa (fa z2 107 (upd (z2.2.1 107) i (-2))) 108 (upd (z2.2.1 108) i (-2))) 109 (upd (z2.2.1 109) i (vp_nar .boolean 0))) ⟨fun j hj => ?_, fun j hj => ⟨?_, ?_, ?_⟩⟩ h72 (mm_tr hm2 (mm_tr (mm_tr (mm_fa (by decide)) (mm_fa (by decide))) (mm_fa (by decide)))) (some (.int (nI 4)))
          · rw [← e1] at this
            rw [show fa (fa (fa z2 107 (upd (z2.2.1 107) i (-2))) 108 (upd (z2.2.1 108) i (-2))) 109 (upd (z2.2.1 109) i (vp_nar .boolean 0)) = fa (fa (fa z2 107 (upd (z2.2.1 107) (nI i).toNatClampNeg (-2))) 108 (upd (z2.2.1 108) (nI i).toNatClampNeg (-2))) 109 (upd (z2.2.1 109) (nI i).toNatClampNeg (vp_nar .boolean 0)) by rw [ci]] at this
            exact this
          · rw [fa_ne _ _ (by decide), fa_ne _ _ (by decide), fa_ne _ _ (by decide), hc2.1 j hj]
            by_cases q : 4 * nt n ≤ j ∧ j < 4 * i + 4
            · rw [if_pos q, if_pos (by omega)]
            · rw [if_neg q, if_neg (by omega)]
          · rw [fa_ne _ _ (by decide), fa_ne _ _ (by decide), fa_self]
            by_cases q : j = i
            · rw [q, pk_us, if_pos (by omega)]
            · rw [pk_un q, (hc2.2 j hj).1]
              by_cases q2 : nt n ≤ j ∧ j < i
              · rw [if_pos q2, if_pos (by omega)]
              · rw [if_neg q2, if_neg (by omega)]
          · rw [fa_ne _ _ (by decide), fa_self]
            by_cases q : j = i
            · rw [q, pk_us, if_pos (by omega)]
            · rw [pk_un q, (hc2.2 j hj).2.1]
              by_cases q2 : nt n ≤ j ∧ j < i
              · rw [if_pos q2, if_pos (by omega)]
              · rw [if_neg q2, if_neg (by omega)]
          · rw [fa_self]
            by_cases q : j = i
            · rw [q, pk_us, if_pos (by omega)]; rfl
            · rw [pk_un q, (hc2.2 j hj).2.2]
              by_cases q2 : nt n ≤ j ∧ j < i
              · rw [if_pos q2, if_pos (by omega)]
              · rw [if_neg q2, if_neg (by omega)]
        | succ m' ihm =>
          intro v hv z2 hc2 h72 hm2
          have e2 := nI_1 v
          have ei : 4 * nI i + nI v = nI (4 * i + v) := ix4d
          refine ri_go hJ [24] 90 24 rfl ?_
          refine ⟨fun c => absurd c (nI_ge (a := v) (b := 4) (by omega) (by decide)), fun _ => ⟨?_, ?_⟩⟩
          · show vp_in (4 * nI i + nI v) 64
            rw [ei]; exact vp_in_nI (by omega) (by decide)
          · have := ihm (v + 1) (by omega) (fa z2 106 (upd (z2.2.1 106) (4 * i + v) (-2))) ⟨fun j hj => ?_, hc2.2⟩ h72 (mm_tr hm2 (mm_fa (by decide)))
            · rw [← e2, show fa z2 106 (upd (z2.2.1 106) (4 * i + v) (-2)) = fa z2 106 (upd (z2.2.1 106) (4 * nI i + nI v).toNatClampNeg (-2)) by rw [ei, cl31 (by omega)]] at this
              exact this
            · rw [fa_self]
              by_cases q : j = 4 * i + v
              · rw [q, pk_us, if_pos (by omega)]
              · rw [pk_un q, hc2.1 j hj]
                by_cases q2 : 4 * nt n ≤ j ∧ j < 4 * i + v
                · rw [if_pos q2, if_pos (by omega)]
                · rw [if_neg q2, if_neg (by omega)]
      refine ri_go hJ [24] 90 19 rfl ?_
      exact ⟨fun c => absurd c (nI_ge (a := i) (b := 16) (by omega) (by decide)), fun _ => inner 4 0 rfl z1 hc h7 hm⟩
  refine ri_run_ok hJ [19] 90 0 0 0 _ _ _ ?_
  refine ⟨_, e10_inI l (st_h (m0 z)) n 1 16 rfl rfl, ?_⟩
  rintro r h' ⟨rfl, rfl⟩
  refine ⟨fun c1 => ?_, fun c => bad (zb_0.mp (Decidable.not_not.mp c))⟩
  have b1 := zb_1.mp c1
  obtain ⟨n1, n2, n3⟩ := nt_ge (k := 1) (m := 16) (by decide) (by decide) b1
  have := loop b1 (16 - nt n) (nt n) (by omega) (Nat.le_refl _) (fs (m0 z) 101 7 n) ⟨fun j hj => by rw [if_neg (by omega)]; rfl, fun j hj => by rw [if_neg (by omega), if_neg (by omega), if_neg (by omega)]; exact ⟨rfl, rfl, rfl⟩⟩ (fs_self _ _ _ _) (mm_tr (mm_fs (by decide)) (mm_fs (by decide))) none
  rw [n3] at this
  exact this
theorem e10_sum (l : Launch) (z : st_T) (T : tT) (Q : tQ) (hq : QW T Q) (hI : MI z T Q) (k : Int32) : ri_Ev l y10_sum w10_sum r10_sum 0 0 [.ref 117, .int k] (st_h z) (MO z (sp_sum T Q k)) := by
  obtain ⟨hM, hQ⟩ := id hI
  refine ri_ev (t10_sum l _) rfl rfl rfl (Nat.le_of_ble_eq_true rfl) rfl (z10_sum l _) (fun J hJ => ?_)
  refine ri_run_ok hJ [] 90 0 0 0 _ _ _ ?_
  refine ⟨_, e10_noRow l (m0 z) T Q (MI_0 hI).2 k, ?_⟩
  rintro r h' ⟨rfl, rfl⟩
  refine ⟨fun c1 => ?_, fun c => MO_same hI (by unfold sp_sum; rw [zbn_1.mp c]; rfl)⟩
  have b1 := zbn_0.mp c1
  obtain ⟨k1, k2⟩ := okR_le hq b1
  have h4 := hq.1
  refine ⟨nt_in k2 (by omega) (by decide), ?_⟩
  refine MO_same (v := z.2.1 126 (nt k)) hI ?_
  unfold sp_sum
  rw [b1, (hQ.2.2 _ _ (Q_at k1)).1]; rfl
theorem e10_chord (l : Launch) (z : st_T) (T : tT) (Q : tQ) (hW : TW T) (hq : QW T Q) (hI : MI z T Q) (k i : Int32) : ri_Ev l y10_chord w10_chord r10_chord 0 0 [.ref 117, .int k, .int i] (st_h z) (MO z (sp_chord T Q k i)) := by
  obtain ⟨hM, hQ⟩ := id hI
  refine ri_ev (t10_chord l _) rfl rfl rfl (Nat.le_of_ble_eq_true rfl) rfl (z10_chord l _) (fun J hJ => ?_)
  have bad : (okR Q k && okP T i) = false → MO z (sp_chord T Q k i) (some (.int (-1))) (st_h (m0 z)) := fun h => MO_same hI (by unfold sp_chord; rw [h]; rfl)
  refine ri_run_ok hJ [] 90 0 0 0 _ _ _ ?_
  refine ⟨_, e10_noRow l (m0 z) T Q (MI_0 hI).2 k, ?_⟩
  rintro r h' ⟨rfl, rfl⟩
  refine ⟨fun c => bad (by rw [zbn_1.mp c]; rfl), fun c1 => ?_⟩
  have b1 := zbn_0.mp (Decidable.not_not.mp c1)
  refine ⟨_, e10_noPlace l (m0 z) T (MI_0 hI).1 i, ?_⟩
  rintro r h' ⟨rfl, rfl⟩
  refine ⟨fun c2 => ?_, fun c => bad (by rw [zbn_1.mp c, Bool.and_false])⟩
  have b2 := zbn_0.mp c2
  obtain ⟨k1, k2⟩ := okR_le hq b1
  obtain ⟨i1, i2⟩ := okP_le hW b2
  have h4 := hq.1
  have hn := hW.1
  have e : 16 * k + i = nI (16 * nt k + nt i) := by
    have h : nI 16 * nI (nt k) + nI (nt i) = nI (16 * nt k + nt i) := by rw [pk_mul, nI_add]
    rw [k2, i2] at h; exact h
  have ec : (16 * k + i).toNatClampNeg = 16 * nt k + nt i := by rw [e]; exact cl31 (by omega)
  refine ⟨by show vp_in (16 * k + i) 64; rw [e]; exact vp_in_nI (by omega) (by decide), ?_⟩
  refine MO_same (v := z.2.1 125 (16 * k + i).toNatClampNeg) hI ?_
  unfold sp_chord
  rw [b1, b2, ec, ((hQ.2.2 _ _ (Q_at k1)).2 _ i1).2]; rfl
theorem e10_note (l : Launch) (z : st_T) (T : tT) (Q : tQ) (hW : TW T) (hq : QW T Q) (hI : MI z T Q) (k v i : Int32) : ri_Ev l y10_note w10_note r10_note 0 0 [.ref 117, .int k, .int v, .int i] (st_h z) (MO z (sp_note T Q k v i)) := by
  obtain ⟨hM, hQ⟩ := id hI
  refine ri_ev (t10_note l _) rfl rfl rfl (Nat.le_of_ble_eq_true rfl) rfl (z10_note l _) (fun J hJ => ?_)
  have bad : (okR Q k && (bt 0 v 3 && okP T i)) = false → MO z (sp_note T Q k v i) (some (.int (-1))) (st_h (m0 z)) := fun h => MO_same hI (by unfold sp_note; rw [h]; rfl)
  refine ri_run_ok hJ [] 90 0 0 0 _ _ _ ?_
  refine ⟨_, e10_noRow l (m0 z) T Q (MI_0 hI).2 k, ?_⟩
  rintro r h' ⟨rfl, rfl⟩
  refine ⟨fun c => bad (by rw [zbn_1.mp c]; rfl), fun c1 => ?_⟩
  have b1 := zbn_0.mp (Decidable.not_not.mp c1)
  refine ⟨_, e10_inI l (st_h (m0 z)) v 0 3 rfl rfl, ?_⟩
  rintro r h' ⟨rfl, rfl⟩
  refine ⟨fun c => bad (by rw [zb_0.mp c, Bool.false_and, Bool.and_false]), fun c2 => ?_⟩
  have b2 := zb_1.mp c2
  refine ⟨_, e10_noPlace l (m0 z) T (MI_0 hI).1 i, ?_⟩
  rintro r h' ⟨rfl, rfl⟩
  refine ⟨fun c3 => ?_, fun c => bad (by rw [zbn_1.mp c, Bool.and_false, Bool.and_false])⟩
  have b3 := zbn_0.mp c3
  obtain ⟨k1, k2⟩ := okR_le hq b1
  obtain ⟨v1, v2⟩ := nt_le (m := 3) (by decide) b2
  obtain ⟨i1, i2⟩ := okP_le hW b3
  have h4 := hq.1
  have hn := hW.1
  have e : 64 * k + 4 * i + v = nI (64 * nt k + (4 * nt i + nt v)) := by
    have h : nI 64 * nI (nt k) + nI 4 * nI (nt i) + nI (nt v) = nI (64 * nt k + (4 * nt i + nt v)) := by rw [pk_mul, pk_mul, nI_add, nI_add, Nat.add_assoc]
    rw [k2, i2, v2] at h; exact h
  have ec : (64 * k + 4 * i + v).toNatClampNeg = 64 * nt k + (4 * nt i + nt v) := by rw [e]; exact cl31 (by omega)
  refine ⟨by show vp_in (64 * k + 4 * i + v) 256; rw [e]; exact vp_in_nI (by omega) (by decide), ?_⟩
  refine MO_same (v := z.2.1 124 (64 * k + 4 * i + v).toNatClampNeg) hI ?_
  unfold sp_note
  rw [b1, b2, b3, ec, ((hQ.2.2 _ _ (Q_at k1)).2 _ i1).1 _ (by omega)]; rfl
theorem e10_least (l : Launch) (z : st_T) (T : tT) (Q : tQ) (hq : QW T Q) (hI : MI z T Q) : ri_Ev l y10_least w10_least r10_least 0 0 [.ref 117] (st_h z) (MO z (sp_least T Q)) := by
  obtain ⟨hM, hQ⟩ := id hI
  refine ri_ev (t10_least l _) rfl rfl rfl (Nat.le_of_ble_eq_true rfl) rfl (z10_least l _) (fun J hJ => ?_)
  refine ri_run_ok hJ [] 90 0 0 0 _ _ _ ?_
  have h4 := hq.1
  refine ⟨fun c => ?_, fun c => ?_⟩
  · have c : ¬ z.1 101 26 = 0 := c
    rw [hQ.1, nk_eq (k := 0) (b := 0) rfl (by omega) (by decide)] at c
    have e := hQ.2.1 c
    refine ⟨fun c2 => MO_same hI ?_, fun c2 => MO_same hI ?_⟩
    · have c2 : z.1 101 30 = 0 := c2
      rw [e] at c2
      unfold sp_least
      rw [if_neg c, zb_0.mp c2]; rfl
    · have c2 : ¬ z.1 101 30 = 0 := c2
      rw [e] at c2
      unfold sp_least
      rw [if_neg c, zb_1.mp c2]; rfl
  · have c : z.1 101 26 = 0 := Decidable.not_not.mp c
    rw [hQ.1, nk_eq (k := 0) (b := 0) rfl (by omega) (by decide)] at c
    exact MO_same hI (by unfold sp_least; rw [if_pos c])
/-- the degree of a member, and of a pitch -/
theorem mlen : mJ.length = 52 ∧ mN.length = 52 := by decide
theorem e10_degree (l : Launch) (z : st_T) (T : tT) (hW : TW T) (hM : RM z T) {c k : Nat} (hc : c < 13) (hk : k < 4) : ri_Ev l y10_degree w10_degree r10_degree 0 0 [.ref 117, .int (nI c), .int (nI k)] (st_h z) (ri_is (nM (tdeg T c k)) (st_h z)) := by
  refine ri_ev (t10_degree l _) rfl rfl rfl (Nat.le_of_ble_eq_true rfl) rfl (z10_degree l _) (fun J hJ => ?_)
  refine ri_run_ok hJ [] 90 0 0 0 _ _ _ ?_
  have e : 4 * nI c + nI k = nI (4 * c + k) := ix4d
  have ii : vp_in (4 * nI c + nI k) 52 := by rw [e]; exact vp_in_nI (by omega) (by decide)
  have h1 := hW.2.2.1
  refine ⟨fun q => ⟨ii, ?_, rfl⟩, fun q => ⟨ii, ?_, rfl⟩⟩
  · have q : z.1 101 6 = 0 := q
    rw [hM.1.2.1, nk_eq (k := 0) (b := 0) rfl (by omega) (by decide)] at q
    show some (Value.int (z.2.1 102 (4 * nI c + nI k).toNatClampNeg)) = _
    rw [e, cl31 (by omega), (hM.2.2.2.2.2.2.1 _ (by omega)).1]
    unfold tdeg
    rw [if_neg (by omega)]
  · have q : ¬ z.1 101 6 = 0 := q
    rw [hM.1.2.1, nk_eq (k := 0) (b := 0) rfl (by omega) (by decide)] at q
    show some (Value.int (z.2.1 103 (4 * nI c + nI k).toNatClampNeg)) = _
    rw [e, cl31 (by omega), (hM.2.2.2.2.2.2.1 _ (by omega)).2]
    unfold tdeg
    rw [if_pos (by omega)]
def dgo (T : tT) (p : Nat) : Nat := (p + 120 - T 8 0) % 12
theorem dgo_lt (T : tT) (p : Nat) : dgo T p < 12 := Nat.mod_lt _ (by decide)
theorem e10_degreeOf (l : Launch) (z : st_T) (T : tT) (hW : TW T) (hM : RM z T) {p : Nat} (hp : p < 2 ^ 30) : ri_Ev l y10_degreeOf w10_degreeOf r10_degreeOf 0 0 [.ref 117, .int (nI p)] (st_h z) (ri_is (nI (dgo T p)) (st_h z)) := by
  refine ri_ev (t10_degreeOf l _) rfl rfl rfl (Nat.le_of_ble_eq_true rfl) rfl (z10_degreeOf l _) (fun J hJ => ?_)
  refine ri_run_ok hJ [] 90 0 0 0 _ _ _ ?_
  have h0 := hW.2.1
  have e : nI p - z.1 101 5 + 120 = nI (p + 120 - T 8 0) := by
    rw [hM.1.1, show nI p - nI (T 8 0) + 120 = (nI p + nI 120) - nI (T 8 0) by
      apply Int32.toBitVec_inj.mp
      simp only [Int32.toBitVec_add, Int32.toBitVec_sub]
      show _ - _ + (nI 120).toBitVec = _
      simp only [BitVec.sub_eq_add_neg]
      ac_rfl, nI_add, pk_sub (by omega)]
  refine ⟨by decide, ?_, rfl⟩
  show some (Value.int ((nI p - z.1 101 5 + 120) - (nI p - z.1 101 5 + 120) / 12 * 12)) = _
  rw [e, rem12 (by omega)]; rfl
theorem tmem_dgo {T : tT} (h0 : T 8 0 < 12) (c k p : Nat) : (tmem T c k = p % 12) ↔ (tdeg T c k = dgo T p) := by
  unfold tmem
  have hd := dgo_lt T p
  have e : dgo T p = (p + 120 - T 8 0) % 12 := rfl
  rcases tdeg_lt T c k with h | h
  · rw [if_pos h, h]
    constructor
    · intro q; omega
    · intro q; omega
  · rw [if_neg (by omega)]
    constructor
    · intro q; omega
    · intro q; omega
/-- which member, or -1 -/
def nmo (n : Nat) : Int32 := if n < 4 then nI n else -1
theorem nM_eq {a b : Nat} (ha : a = 99 ∨ a < 12) (hb : b < 12) : (nM a = nI b) ↔ a = b := by
  unfold nM
  rcases ha with h | h
  · rw [if_pos h]
    exact ⟨fun q => absurd q.symm (nI_m1 (by omega)), fun q => by omega⟩
  · rw [if_neg (by omega), nn_eq (by omega) (by omega)]
theorem e10_memberOf (l : Launch) (z : st_T) (T : tT) (hW : TW T) (hM : RM z T) {c p : Nat} (hc : c < 13) (hp : p < 2 ^ 30) : ri_Ev l y10_memberOf w10_memberOf r10_memberOf 0 0 [.ref 117, .int (nI c), .int (nI p)] (st_h z) (ri_is (nmo (tmof T c p)) (st_h z)) := by
  refine ri_ev (t10_memberOf l _) rfl rfl rfl (Nat.le_of_ble_eq_true rfl) rfl (z10_memberOf l _) (fun J hJ => ?_)
  have hd := dgo_lt T p
  have loop : ∀ n k, n + k = 4 → (∀ j, j < k → ¬ tmem T c j = p % 12) → J 6 0 0 [some (.ref 117), some (.int (nI c)), some (.int (nI p)), some (.int (nI (dgo T p))), some (.int (nI k))] [] (st_h z) := by
    intro n
    induction n with
    | zero =>
      intro k hk hno
      have hk4 : k = 4 := by omega
      subst hk4
      refine ri_go hJ [] 90 6 rfl ?_
      refine ⟨fun _ => ⟨?_, rfl⟩, fun c => absurd (by decide) c⟩
      unfold tmof
      rw [if_neg (hno 0 (by decide)), if_neg (hno 1 (by decide)), if_neg (hno 2 (by decide)), if_neg (hno 3 (by decide))]; rfl
    | succ n ih =>
      intro k hk hno
      have e1 := nI_1 k
      refine ri_go hJ [6] 90 6 rfl ?_
      refine ⟨fun c => absurd c (nI_ge (a := k) (b := 4) (by omega) (by decide)), fun _ => ⟨_, e10_degree l z T hW hM hc (k := k) (by omega), ?_⟩⟩
      rintro r h' ⟨rfl, rfl⟩
      refine ⟨fun q => ?_, fun q => ⟨?_, rfl⟩⟩
      · have q : ¬ nM (tdeg T c k) = nI (dgo T p) := q
        rw [nM_eq (tdeg_lt T c k) hd, ← tmem_dgo hW.2.1] at q
        have := ih (k + 1) (by omega) (fun j hj => by
          by_cases e : j = k
          · rw [e]; exact q
          · exact hno j (by omega))
        rw [← e1] at this
        exact this
      · have q : nM (tdeg T c k) = nI (dgo T p) := Decidable.not_not.mp q
        rw [nM_eq (tdeg_lt T c k) hd, ← tmem_dgo hW.2.1] at q
        have : tmof T c p = k := by
          unfold tmof
          match k, hk, hno, q with
          | 0, _, _, q => rw [if_pos q]
          | 1, _, hno, q => rw [if_neg (hno 0 (by decide)), if_pos q]
          | 2, _, hno, q => rw [if_neg (hno 0 (by decide)), if_neg (hno 1 (by decide)), if_pos q]
          | 3, _, hno, q => rw [if_neg (hno 0 (by decide)), if_neg (hno 1 (by decide)), if_neg (hno 2 (by decide)), if_pos q]
          | k + 4, hk, _, _ => exact absurd hk (by omega)
        rw [this]
        unfold nmo
        rw [if_pos (by omega)]
  refine ri_run_ok hJ [6] 90 0 0 0 _ _ _ ?_
  refine ⟨_, e10_degreeOf l z T hW hM hp, ?_⟩
  rintro r h' ⟨rfl, rfl⟩
  exact loop 4 0 rfl (fun j hj => absurd hj (by omega))
theorem e10_member (l : Launch) (z : st_T) (T : tT) (Q : tQ) (hW : TW T) (hI : MI z T Q) (c k : Int32) : ri_Ev l y10_member w10_member r10_member 0 0 [.ref 117, .int c, .int k] (st_h z) (MO z (sp_member T Q c k)) := by
  obtain ⟨hM, hQ⟩ := id hI
  refine ri_ev (t10_member l _) rfl rfl rfl (Nat.le_of_ble_eq_true rfl) rfl (z10_member l _) (fun J hJ => ?_)
  have bad : (bt 0 c 12 && bt 0 k 3) = false → MO z (sp_member T Q c k) (some (.int (-1))) (st_h (m0 z)) := fun h => MO_same hI (by unfold sp_member; rw [h]; rfl)
  refine ri_run_ok hJ [] 90 0 0 0 _ _ _ ?_
  refine ⟨_, e10_inI l (st_h (m0 z)) c 0 12 rfl rfl, ?_⟩
  rintro r h' ⟨rfl, rfl⟩
  refine ⟨fun q => bad (by rw [zb_0.mp q]; rfl), fun c1 => ?_⟩
  have b1 := zb_1.mp c1
  refine ⟨_, e10_inI l (st_h (m0 z)) k 0 3 rfl rfl, ?_⟩
  rintro r h' ⟨rfl, rfl⟩
  refine ⟨fun c2 => ?_, fun q => bad (by rw [zb_0.mp (Decidable.not_not.mp q), Bool.and_false])⟩
  have b2 := zb_1.mp c2
  obtain ⟨i1, i2⟩ := nt_le (m := 12) (by decide) b1
  obtain ⟨k1, k2⟩ := nt_le (m := 3) (by decide) b2
  have e := e10_degree l (m0 z) T hW (MI_0 hI).1 (c := nt c) (k := nt k) (by omega) (by omega)
  rw [i2, k2] at e
  refine ⟨_, e, ?_⟩
  rintro r h' ⟨rfl, rfl⟩
  have h0 := hW.2.1
  have es : sp_member T Q c k = (n9 (tmem T (nt c) (nt k)), T, Q) := by unfold sp_member; rw [b1, b2]; rfl
  refine ⟨fun q => ⟨_, e, ?_⟩, fun q => MO_same hI ?_⟩
  · rintro r h' ⟨rfl, rfl⟩
    have q : (0 : Int32) ≤ nM (tdeg T (nt c) (nt k)) := q
    have hd : tdeg T (nt c) (nt k) < 12 := by
      rcases tdeg_lt T (nt c) (nt k) with h | h
      · rw [h] at q; exact absurd q (by decide)
      · exact h
    refine ⟨by decide, MO_same hI ?_⟩
    have en : nM (tdeg T (nt c) (nt k)) = nI (tdeg T (nt c) (nt k)) := if_neg (by omega)
    rw [es, show (m0 z).1 101 5 = nI (T 8 0) from (MI_0 hI).1.1.1, en]
    show _ = ((nI (tdeg T (nt c) (nt k)) + nI (T 8 0)) - (nI (tdeg T (nt c) (nt k)) + nI (T 8 0)) / 12 * 12, T, Q)
    rw [nI_add, rem12 (by omega)]
    have et : tmem T (nt c) (nt k) = (T 8 0 + tdeg T (nt c) (nt k)) % 12 := by unfold tmem; rw [if_neg (by omega)]
    rw [et, Nat.add_comm]
    unfold n9
    rw [if_neg (by omega)]
  · have q : ¬ (0 : Int32) ≤ nM (tdeg T (nt c) (nt k)) := q
    have hd : tdeg T (nt c) (nt k) = 99 := by
      rcases tdeg_lt T (nt c) (nt k) with h | h
      · exact h
      · exact absurd (show (0 : Int32) ≤ nM (tdeg T (nt c) (nt k)) by unfold nM; rw [if_neg (by omega)]; exact nI_pos' (by omega)) q
    rw [es]
    unfold tmem n9
    rw [if_pos hd, if_pos rfl]
