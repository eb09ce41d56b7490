/-! THE REFERENCE: repair -/
theorem RM_fr {z : st_T} {T : tT} (h : RM z T) (k : Nat) : RM (fa z 106 (upd (z.2.1 106) k (-2))) (frT T k) := by
  obtain ⟨a, b, c⟩ := h
  refine ⟨a, fun j hj => ?_, c⟩
  rw [fa_self, frT_0]
  by_cases q : j = k
  · rw [q, pk_us, if_pos rfl]; rfl
  · rw [pk_un q, if_neg q]; exact b j hj
theorem RM_ba {z : st_T} {T : tT} {k : Nat} (h : RM z (frT T k)) {x : Int32} (hx : x = nC (T 0 k)) : RM (fa z 106 (upd (z.2.1 106) k x)) T := by
  obtain ⟨a, b, c⟩ := h
  refine ⟨a, fun j hj => ?_, c⟩
  rw [fa_self]
  by_cases q : j = k
  · rw [q, pk_us, hx]
  · have := b j hj
    rw [frT_0, if_neg q] at this
    rw [pk_un q]; exact this
set_option maxHeartbeats 2000000 in
theorem e10_repair (l : Launch) (z : st_T) (T : tT) (Q : tQ) (hW : TW T) (hI : MI z T Q) : ri_Ev l y10_repair w10_repair r10_repair 0 0 [.ref 117] (st_h z) (MO z (sp_repair T Q)) := by
  have hI0 := MI_0 hI
  have hn := hW.1
  refine ri_ev (t10_repair l _) rfl rfl rfl (Nat.le_of_ble_eq_true rfl) rfl (z10_repair l _) (fun J hJ => ?_)
  have es : ∀ v, rpA T = v → sp_repair T Q = (v, T, Q) := fun v e => by unfold sp_repair; rw [e]
  have fin : ∀ (v : Int32) (z' : st_T), rpA T = v → RM z' T → mm [0, 32, 35] [106, 114, 115, 116, 117, 123, 127] z z' → MO z (sp_repair T Q) (some (.int v)) (st_h z') := fun v z' e hR hm => MO_mm (es v e) ⟨hR, RQ_mm hI.2 hm (by decide) (by decide) (by decide) (by decide) (by decide)⟩ hm (by decide)
  -- note by note
  have loop : ovf T = false → ¬ fu T = 99 → ∀ m k, m + k = 4 * T 8 2 → gw T = gwF T m k → ∀ z1, RM z1 T → mm [0, 32, 35] [106, 114, 115, 116, 117, 123, 127] z z1 → ∀ o2 o3 o4, J 15 0 0 [some (.ref 117), some (.int (nI k)), o2, o3, o4] [] (st_h z1) := by
    intro ho hf m
    have er : rpA T = gw T := by unfold rpA; rw [ho]; show (if fu T = 99 then -1 else gw T) = _; rw [if_neg hf]
    induction m with
    | zero =>
      intro k hk hg z1 hR hm o2 o3 o4
      have e4 : 4 * z1.1 101 7 = nI (4 * T 8 2) := by rw [hR.1.2.2]; show nI 4 * nI (T 8 2) = _; rw [pk_mul]
      refine ri_go hJ [] 90 15 rfl ?_
      refine ⟨fun _ => fin _ z1 (by rw [er, hg]; rfl) hR hm, fun q => absurd (show 4 * z1.1 101 7 ≤ nI k from ?_) q⟩
      rw [e4]; exact nI_le (by omega) (by omega)
    | succ m ih =>
      intro k hk hg z1 hR hm o2 o3 o4
      have e1 := nI_1 k
      have e4 : 4 * z1.1 101 7 = nI (4 * T 8 2) := by rw [hR.1.2.2]; show nI 4 * nI (T 8 2) = _; rw [pk_mul]
      have vk : vp_in (nI k) 64 := vp_in_nI (by omega) (by decide)
      have ck : (nI k).toNatClampNeg = k := cl31 (by omega)
      have ek : z1.2.1 106 (nI k).toNatClampNeg = nC (T 0 k) := by rw [ck]; exact hR.2.1 k (by omega)
      have hT := hW.2.2.2.1 k (by omega)
      have hk4 : k / 4 < T 8 2 := by omega
      have hgs : gwF T (m + 1) k = if T 0 k = 0 then gwF T m (k + 1) else if 400 < (stL (frT T k) (k / 4)).length then -3 else if (stL (frT T k) (k / 4)).any (jnP T (k / 4)) = true then nI k else gwF T m (k + 1) := by rw [gwF]
      -- on to the next note
      have k62 : gw T = gwF T m (k + 1) → ∀ z2, RM z2 T → mm [0, 32, 35] [106, 114, 115, 116, 117, 123, 127] z z2 → ∀ o2 o3 o4, J 62 0 0 [some (.ref 117), some (.int (nI k)), o2, o3, o4] [] (st_h z2) := by
        intro hg2 z2 hR2 hm2 o2 o3 o4
        refine ri_go hJ [15] 90 62 rfl ?_
        have := ih (k + 1) (by omega) hg2 z2 hR2 hm2 o2 o3 o4
        rw [← e1] at this
        exact this
      have k48 : ¬ T 0 k = 0 → ∀ (fits goes : Bool) (z2 : st_T), RM z2 (frT T k) → mm [0, 32, 35] [106, 114, 115, 116, 117, 123, 127] z z2 → (fits = true ↔ ¬ 400 < (stL (frT T k) (k / 4)).length) → (fits = true → (goes = true ↔ (stL (frT T k) (k / 4)).any (jnP T (k / 4)) = true)) → ∀ o4, J 48 0 0 [some (.ref 117), some (.int (nI k)), some (.int (z1.2.1 106 (nI k).toNatClampNeg)), some (.int (zb fits)), o4] [.int (zb goes)] (st_h z2) := by
        intro hT0 fits goes z2 hR2 hm2 hft hgo o4
        have hR3 : RM (fa z2 106 (upd (z2.2.1 106) (nI k).toNatClampNeg (z1.2.1 106 (nI k).toNatClampNeg))) T := by
          rw [ck]
          exact RM_ba hR2 (by rw [← ek, ck])
        have hm3 : mm [0, 32, 35] [106, 114, 115, 116, 117, 123, 127] z (fa z2 106 (upd (z2.2.1 106) (nI k).toNatClampNeg (z1.2.1 106 (nI k).toNatClampNeg))) := mm_tr hm2 (mm_fa (by decide))
        rw [hgs, if_neg hT0] at hg
        refine ri_go hJ [62] 90 48 rfl ?_
        refine ⟨vk, fun q => ?_, fun q => fin _ _ ?_ hR3 hm3⟩
        · have q := zb_1.mp q
          rw [if_neg (hft.mp q)] at hg
          refine ⟨fun q2 => k62 ?_ _ hR3 hm3 _ _ _, fun q2 => fin _ _ ?_ hR3 hm3⟩
          · have q2 := zb_0.mp q2
            rw [hg, if_neg (fun h => by rw [(hgo q).mpr h] at q2; cases q2)]
          · have q2 := zb_1.mp q2
            rw [er, hg, if_pos ((hgo q).mp q2)]
        · have q := zb_0.mp (Decidable.not_not.mp q)
          have h4 : 400 < (stL (frT T k) (k / 4)).length := Decidable.byContradiction (fun h => by rw [hft.mpr h] at q; cases q)
          rw [er, hg, if_pos h4]
      refine ri_go hJ [62, 48] 90 15 rfl ?_
      refine ⟨fun q => absurd (show 4 * z1.1 101 7 ≤ nI k from q) (by rw [e4]; exact nI_ge (by omega) (by omega)), fun _ => ⟨vk, fun q => k62 ?_ z1 hR hm _ _ _, fun q => ⟨vk, vk, ?_⟩⟩⟩
      · have q : z1.2.1 106 (nI k).toNatClampNeg = -2 := q
        rw [ek, nC_none (by omega)] at q
        rw [hg, hgs, if_pos q]
      · have q : ¬ z1.2.1 106 (nI k).toNatClampNeg = -2 := q
        rw [ek, nC_none (by omega)] at q
        have hR4 : RM (fa z1 106 (upd (z1.2.1 106) (nI k).toNatClampNeg (-2))) (frT T k) := by rw [ck]; exact RM_fr hR k
        have hm4 : mm [0, 32, 35] [106, 114, 115, 116, 117, 123, 127] z (fa z1 106 (upd (z1.2.1 106) (nI k).toNatClampNeg (-2))) := mm_tr hm (mm_fa (by decide))
        have hov := ovf_fr hk4 ho
        refine ⟨_, e10_findAll l (fa z1 106 (upd (z1.2.1 106) (nI k).toNatClampNeg (-2))) (frT T k) (TW_fr hW k) hR4, ?_⟩
        rintro r h' ⟨z5, rfl, rfl, hm5, hA5⟩
        have hR5 := RM_mm hR4 hm5 (by decide) (by decide)
        have hq5 : mm [0, 32, 35] [106, 114, 115, 116, 117, 123, 127] z z5 := mm_tr hm4 (mm_mo hm5 (by decide) (by decide))
        have hfit : (!ovf (frT T k)) = true ↔ ¬ 400 < (stL (frT T k) (k / 4)).length := by
          rw [← hov]
          cases ovf (frT T k) <;> simp
        refine ⟨fun q2 => ?_, fun q2 => ?_⟩
        · have q2 := zb_0.mp q2
          exact k48 q (!ovf (frT T k)) false z5 hR5 hq5 hfit (fun h => by rw [q2] at h; cases h) _
        · have q2 := zb_1.mp q2
          have ho' : ovf (frT T k) = false := by
            cases e : ovf (frT T k) with
            | false => rfl
            | true => rw [e] at q2; cases q2
          refine ⟨_, e10_firstBarred l z5 (frT T k) (TW_fr hW k) hR5 (hA5 ho') (ovf_few ho'), ?_⟩
          rintro r h' ⟨z6, rfl, rfl, hm6, -⟩
          have hR6 := RM_mm hR5 hm6 (by decide) (by decide)
          have hq6 : mm [0, 32, 35] [106, 114, 115, 116, 117, 123, 127] z z6 := mm_tr hq5 (mm_mo hm6 (by decide) (by decide))
          have hfb : fu (frT T k) < 2 ^ 31 := fu_b (frT T k) hn.2
          have hfr := fu_fr hW (k := k) hk4
          refine ⟨fun q3 => ?_, fun q3 => ?_⟩
          · have q3 : 0 ≤ n9 (fu (frT T k)) := q3
            rw [n9_pos hfb] at q3
            refine k48 q (!ovf (frT T k)) false z6 hR6 hq6 hfit (fun _ => ⟨fun h => (by cases h), fun h => absurd (hfr.mpr h) q3⟩) _
          · have q3 : ¬ 0 ≤ n9 (fu (frT T k)) := q3
            rw [n9_pos hfb] at q3
            refine k48 q (!ovf (frT T k)) true z6 hR6 hq6 hfit (fun _ => ⟨fun _ => hfr.mp (Decidable.not_not.mp q3), fun _ => rfl⟩) _
  refine ri_run_ok hJ [15] 90 0 0 0 _ _ _ ?_
  refine ⟨_, e10_findAll l (m0 z) T hW hI0.1, ?_⟩
  rintro r h' ⟨z1, rfl, rfl, hm1, hA1⟩
  have hR1 := RM_mm hI0.1 hm1 (by decide) (by decide)
  have hq1 : mm [0, 32, 35] [106, 114, 115, 116, 117, 123, 127] z z1 := mm_tr (mm_mo (m0_mm z) (by decide) (by decide)) (mm_mo hm1 (by decide) (by decide))
  refine ⟨fun c2 => ?_, fun c2 => fin _ z1 ?_ hR1 hq1⟩
  · have ho : ovf T = false := by
      cases e : ovf T with
      | false => rfl
      | true => rw [e] at c2; exact absurd rfl c2
    refine ⟨_, e10_firstBarred l z1 T hW hR1 (hA1 ho) (ovf_few ho), ?_⟩
    rintro r h' ⟨z2, rfl, rfl, hm2, -⟩
    have hR2 := RM_mm hR1 hm2 (by decide) (by decide)
    have hq2 : mm [0, 32, 35] [106, 114, 115, 116, 117, 123, 127] z z2 := mm_tr hq1 (mm_mo hm2 (by decide) (by decide))
    have hfb := fu_b T hn.2
    refine ⟨fun q => ?_, fun q => fin _ z2 ?_ hR2 hq2⟩
    · have q : 0 ≤ n9 (fu T) := q
      rw [n9_pos hfb] at q
      exact loop ho q (4 * T 8 2) 0 rfl rfl z2 hR2 hq2 _ _ _
    · have q : ¬ 0 ≤ n9 (fu T) := q
      rw [n9_pos hfb] at q
      unfold rpA
      rw [ho]
      show (if fu T = 99 then -1 else gw T) = _
      rw [if_pos (Decidable.not_not.mp q)]
  · have ho : ovf T = true := by
      cases e : ovf T with
      | true => rfl
      | false => rw [e] at c2; exact absurd (by decide) c2
    unfold rpA; rw [ho]; rfl
