/-! THE REFERENCE: narrow's run -/
set_option maxHeartbeats 4000000 in
theorem e10_narrow (l : Launch) (z : st_T) {i beam n D : Nat} {W : Nat → wy} (hi : i < 16) (hb : beam ≤ 100) (hn : n ≤ 400) (hN : z.2.1 117 i = nI n) (hW : ∀ s, s < n → WM z (400 * i + s) (W s) D ∧ (W s).length ≤ 4 ∧ BD (2 ^ 30) (W s)) : ri_Ev l y10_narrow w10_narrow r10_narrow 0 0 [.ref 117, .int (nI i), .int (nI beam)] (st_h z) (ri_zi (zb (decide (0 < beam) && decide (beam < dcn (goW W) n))) fun z' => (∀ s, s < n → z'.2.1 122 (400 * i + s) = zb (alv beam W n s)) ∧ K1 z z' i) := by
  refine ri_ev (t10_narrow l _) rfl rfl rfl (Nat.le_of_ble_eq_true rfl) rfl (z10_narrow l _) (fun J hJ => ?_)
  have e4 : 400 * nI i = nI (400 * i) := by show nI 400 * nI i = _; rw [pk_mul]
  have vi : vp_in (nI i) 16 := vp_in_nI hi (by decide)
  have ci : (nI i).toNatClampNeg = i := cl31 (by omega)
  have hdc := dcn_le (goW W) n
  have hway : ∀ z1, K1 z z1 i → ∀ s, s < n → z1.2.1 121 (400 * i + s) = nI (W s).length ∧ (goW W s = true → z1.2.1 118 (4 * (400 * i + s)) = nI (hd (W s)) ∧ hd (W s) < 2 ^ 30) := by
    intro z1 hK s hs
    obtain ⟨h1, h2, h3⟩ := hW s hs
    refine ⟨by rw [hK.2.1 121 (by decide)]; exact h1.1, fun hg => ?_⟩
    obtain ⟨a, ha, e⟩ := goW_t hg
    have := (h1.2 0 a ha).1
    rw [hK.2.1 118 (by decide), ← e]
    exact ⟨this, (h3 0 a ha).1⟩
  have hgo : ∀ s, (goW W s = true ↔ ¬ (W s).length = 0) := by
    intro s
    unfold goW
    cases e : W s with
    | nil => simp
    | cons a r => simp
  have hmany : ∀ z1, K1 z z1 i → (400 : Int32) * nI i + z1.2.1 117 (nI i).toNatClampNeg = nI (400 * i + n) := by
    intro z1 hK
    rw [ci, hK.2.1 117 (by decide), hN, e4, nI_add]
  -- the second part: the best ones, one by one
  have k115 : 0 < beam → ∀ (z1 : st_T), K1 z z1 i → (∀ s, s < n → z1.2.1 122 (400 * i + s) = zb (alv beam W n s)) → ∀ o4 o5 o6 o7, J 115 0 0 [some (.ref 117), some (.int (nI i)), some (.int (nI beam)), some (.int (nI (dcn (goW W) n))), o4, o5, o6, o7] [] (st_h z1) := by
    intro hb0 z1 hK hA o4 o5 o6 o7
    refine ri_go hJ [] 90 115 rfl ?_
    refine ⟨fun q => ⟨rfl, ?_, z1, rfl, hA, hK⟩, fun q => ⟨rfl, ?_, z1, rfl, hA, hK⟩⟩
    · have q : nI (dcn (goW W) n) ≤ nI beam := q
      rw [nn_le (by omega) (by omega)] at q
      rw [decide_eq_false (show ¬ beam < dcn (goW W) n by omega), Bool.and_false]; rfl
    · have q : ¬ nI (dcn (goW W) n) ≤ nI beam := q
      rw [nn_le (by omega) (by omega)] at q
      rw [decide_eq_true hb0, decide_eq_true (show beam < dcn (goW W) n by omega)]; rfl
  have hRl := (nrw_ok beam W n).2.1
  have pick : 0 < beam → ∀ m k, m + k = (nrw beam W n).length → ∀ (z1 : st_T), K1 z z1 i → (∀ s, s < n → z1.2.1 122 (400 * i + s) = zb (kpB (nrw beam W n) k s)) → ∀ o5 o6 o7, J 49 0 0 [some (.ref 117), some (.int (nI i)), some (.int (nI beam)), some (.int (nI (dcn (goW W) n))), some (.int (nI k)), o5, o6, o7] [] (st_h z1) := by
    intro hb0 m
    induction m with
    | zero =>
      intro k hk z1 hK hA o5 o6 o7
      have fin : ∀ s, s < n → z1.2.1 122 (400 * i + s) = zb (alv beam W n s) := by
        intro s hs
        rw [hA s hs]
        unfold alv kpB
        rw [if_neg (by omega), List.take_of_length_le (by omega)]
      refine ri_go hJ [115] 90 49 rfl ?_
      refine ⟨fun _ => k115 hb0 z1 hK fin _ _ _ _, fun q => ⟨fun _ => k115 hb0 z1 hK fin _ _ _ _, fun q2 => ?_⟩⟩
      have q : ¬ nI beam ≤ nI k := q
      rw [nn_le (by omega) (by omega)] at q
      have q2 : ¬ nI (dcn (goW W) n) ≤ nI k := q2
      rw [nn_le (by omega) (by omega)] at q2
      omega
    | succ m ih =>
      intro k hk z1 hK hA o5 o6 o7
      have ek := nI_1 k
      obtain ⟨a, ha⟩ : ∃ a, (nrw beam W n)[k]? = some a := ⟨_, List.getElem?_eq_getElem (by omega)⟩
      have ha2 := ((nrw_ok beam W n).2.2.1 a (List.mem_of_getElem? ha)).1
      -- behind the scan
      have k108 : ∀ (o : Option Nat), BS (nrw beam W n) W k n o → ∀ o6 o7, J 108 0 0 [some (.ref 117), some (.int (nI i)), some (.int (nI beam)), some (.int (nI (dcn (goW W) n))), some (.int (nI k)), some (.int (bsI i o)), o6, o7] [] (st_h z1) := by
        intro o ho o6 o7
        have eo := BS_end rfl ha ho
        subst eo
        have vb : vp_in (nI (400 * i + a.2)) 6400 := vp_in_nI (by omega) (by decide)
        have cb : (nI (400 * i + a.2)).toNatClampNeg = 400 * i + a.2 := cl31 (by omega)
        refine ri_go hJ [49] 90 108 rfl ?_
        refine ⟨vb, ?_⟩
        have := ih (k + 1) (by omega) (fa z1 122 (upd (z1.2.1 122) (nI (400 * i + a.2)).toNatClampNeg (vp_nar .boolean 1))) ⟨fun q hq => ?_, mm_tr hK.2 (mm_fa (by decide))⟩ (fun s hs => ?_) (some (.int (bsI i (some a.2)))) o6 o7
        · rw [← ek] at this
          exact this
        · rw [fa_self, cb, pk_un (by omega)]; exact hK.1 q hq
        · rw [fa_self, cb, kpB_1 ha]
          by_cases e : s = a.2
          · rw [e, pk_us, eq_b rfl, Bool.or_true]; rfl
          · rw [pk_un (by omega), ne_b e, Bool.or_false]; exact hA s hs
      have scan : ∀ m' j, m' + j = n → ∀ (o : Option Nat), BS (nrw beam W n) W k j o → ∀ o7, J 61 0 0 [some (.ref 117), some (.int (nI i)), some (.int (nI beam)), some (.int (nI (dcn (goW W) n))), some (.int (nI k)), some (.int (bsI i o)), some (.int (nI (400 * i + j))), o7] [] (st_h z1) := by
        intro m'
        induction m' with
        | zero =>
          intro j hj o ho o7
          have hjn : j = n := by omega
          subst hjn
          refine ri_go hJ [108] 90 61 rfl ?_
          refine ⟨vi, fun _ => k108 o ho _ _, fun q => absurd (show (400 : Int32) * nI i + z1.2.1 117 (nI i).toNatClampNeg ≤ nI (400 * i + j) from ?_) q⟩
          rw [hmany z1 hK]; exact nI_le (Nat.le_refl _) (by omega)
        | succ m' ihs =>
          intro j hj o ho o7
          have ej : nI (400 * i + j) + 1 = nI (400 * i + (j + 1)) := nI_1 _
          have vj : vp_in (nI (400 * i + j)) 6400 := vp_in_nI (by omega) (by decide)
          have cj : (nI (400 * i + j)).toNatClampNeg = 400 * i + j := cl31 (by omega)
          obtain ⟨wl, ws⟩ := hway z1 hK j (by omega)
          have hl4 := (hW j (by omega)).2.1
          have el : z1.2.1 121 (nI (400 * i + j)).toNatClampNeg = nI (W j).length := by rw [cj]; exact wl
          have ek2 : z1.2.1 122 (nI (400 * i + j)).toNatClampNeg = zb (kpB (nrw beam W n) k j) := by rw [cj]; exact hA j (by omega)
          have k105 : ∀ (o' : Option Nat), BS (nrw beam W n) W k (j + 1) o' → ∀ o7 u, u = bsI i o' → J 105 0 0 [some (.ref 117), some (.int (nI i)), some (.int (nI beam)), some (.int (nI (dcn (goW W) n))), some (.int (nI k)), some (.int (bsI i o)), some (.int (nI (400 * i + j))), o7] [.int u] (st_h z1) := by
            intro o' ho' o7 u hu
            refine ri_go hJ [61] 90 105 rfl ?_
            have := ihs (j + 1) (by omega) o' ho' o7
            rw [← ej, ← hu] at this
            exact this
          -- not free: the same best one
          have no : frB (nrw beam W n) W k j = false → BS (nrw beam W n) W k (j + 1) o := by
            intro hf
            cases o with
            | none =>
              intro s hs
              by_cases e : s = j
              · rw [e]; exact hf
              · exact ho s (by omega)
            | some b =>
              obtain ⟨b1, b2, b3⟩ := ho
              refine ⟨by omega, b2, fun s hs hfs hne => ?_⟩
              by_cases e : s = j
              · rw [e, hf] at hfs; cases hfs
              · exact b3 s (by omega) hfs hne
          have k84 : ∀ f : Bool, f = frB (nrw beam W n) W k j → ∀ o7, J 84 0 0 [some (.ref 117), some (.int (nI i)), some (.int (nI beam)), some (.int (nI (dcn (goW W) n))), some (.int (nI k)), some (.int (bsI i o)), some (.int (nI (400 * i + j))), o7] [.int (zb f)] (st_h z1) := by
            intro f hf o7
            refine ri_go hJ [105] 90 84 rfl ?_
            refine ⟨fun q => k105 o (no (by rw [← hf]; exact zb_0.mp q)) _ _ rfl, fun q => ?_⟩
            have hfr : frB (nrw beam W n) W k j = true := by rw [← hf]; exact zb_1.mp q
            have hgj : goW W j = true := by unfold frB at hfr; exact (Bool.and_eq_true_iff.mp hfr).1
            cases o with
            | none =>
              refine ⟨fun _ => k105 (some j) ⟨by omega, hfr, fun s hs hfs hne => ?_⟩ _ _ rfl, fun q2 => absurd (show (-1 : Int32) < 0 by decide) q2⟩
              rw [ho s (by omega)] at hfs; cases hfs
            | some b =>
              obtain ⟨b1, b2, b3⟩ := ho
              have hgb : goW W b = true := by unfold frB at b2; exact (Bool.and_eq_true_iff.mp b2).1
              obtain ⟨sj, tj⟩ := ws hgj
              obtain ⟨sb, tb⟩ := (hway z1 hK b (by omega)).2 hgb
              have ij : (4 : Int32) * nI (400 * i + j) = nI (4 * (400 * i + j)) := by show nI 4 * nI (400 * i + j) = _; rw [pk_mul]
              have ib : (4 : Int32) * nI (400 * i + b) = nI (4 * (400 * i + b)) := by show nI 4 * nI (400 * i + b) = _; rw [pk_mul]
              have gj : z1.2.1 118 ((4 : Int32) * nI (400 * i + j)).toNatClampNeg = nI (hd (W j)) := by rw [ij, cl31 (by omega)]; exact sj
              have gb : z1.2.1 118 ((4 : Int32) * nI (400 * i + b)).toNatClampNeg = nI (hd (W b)) := by rw [ib, cl31 (by omega)]; exact sb
              refine ⟨fun q2 => absurd (show nI (400 * i + b) < 0 from q2) (nI_pos (by omega)), fun _ => ⟨by show vp_in ((4 : Int32) * nI (400 * i + j)) 25600; rw [ij]; exact vp_in_nI (by omega) (by decide), by show vp_in ((4 : Int32) * nI (400 * i + b)) 25600; rw [ib]; exact vp_in_nI (by omega) (by decide), fun q2 => k105 (some b) ⟨by omega, b2, fun s hs hfs hne => ?_⟩ _ _ rfl, fun q2 => k105 (some j) ⟨by omega, hfr, fun s hs hfs hne => ?_⟩ _ _ rfl⟩⟩
              · have q2 : z1.2.1 118 ((4 : Int32) * nI (400 * i + b)).toNatClampNeg ≤ z1.2.1 118 ((4 : Int32) * nI (400 * i + j)).toNatClampNeg := q2
                rw [gj, gb, nn_le (by omega) (by omega)] at q2
                by_cases e : s = j
                · subst e
                  unfold lx
                  show hd (W b) < hd (W s) ∨ (hd (W b) = hd (W s) ∧ b < s)
                  omega
                · exact b3 s (by omega) hfs hne
              · have q2 : ¬ z1.2.1 118 ((4 : Int32) * nI (400 * i + b)).toNatClampNeg ≤ z1.2.1 118 ((4 : Int32) * nI (400 * i + j)).toNatClampNeg := q2
                rw [gj, gb, nn_le (by omega) (by omega)] at q2
                by_cases e : s = b
                · subst e
                  unfold lx
                  show hd (W j) < hd (W s) ∨ (hd (W j) = hd (W s) ∧ j < s)
                  omega
                · have := b3 s (by omega) hfs e
                  unfold lx at this ⊢
                  have this : hd (W b) < hd (W s) ∨ (hd (W b) = hd (W s) ∧ b < s) := this
                  show hd (W j) < hd (W s) ∨ (hd (W j) = hd (W s) ∧ j < s)
                  omega
          refine ri_go hJ [84] 90 61 rfl ?_
          refine ⟨vi, fun q => absurd (show (400 : Int32) * nI i + z1.2.1 117 (nI i).toNatClampNeg ≤ nI (400 * i + j) from q) (by rw [hmany z1 hK]; exact nI_ge (by omega) (by omega)), fun _ => ⟨vj, fun q => k84 false ?_ _, fun q => ⟨vj, fun q2 => k84 false ?_ _, fun q2 => k84 true ?_ _⟩⟩⟩
          · have q : z1.2.1 121 (nI (400 * i + j)).toNatClampNeg ≤ nI 0 := q
            rw [el, nn_le (by omega) (by decide)] at q
            have : goW W j = false := Bool.eq_false_iff.mpr (fun h => (hgo j).mp h (by omega))
            unfold frB; rw [this]; rfl
          · have q2 : ¬ z1.2.1 122 (nI (400 * i + j)).toNatClampNeg = 0 := q2
            rw [ek2] at q2
            unfold frB; rw [zb_1.mp q2]; simp
          · have q : ¬ z1.2.1 121 (nI (400 * i + j)).toNatClampNeg ≤ nI 0 := q
            rw [el, nn_le (by omega) (by decide)] at q
            have q2 : z1.2.1 122 (nI (400 * i + j)).toNatClampNeg = 0 := Decidable.not_not.mp q2
            rw [ek2] at q2
            unfold frB; rw [(hgo j).mpr (by omega), zb_0.mp q2]; rfl
      refine ri_go hJ [61, 115] 90 49 rfl ?_
      refine ⟨fun q => absurd (show nI beam ≤ nI k from q) (by rw [nn_le (by omega) (by omega)]; omega), fun _ => ⟨fun q => absurd (show nI (dcn (goW W) n) ≤ nI k from q) (by rw [nn_le (by omega) (by omega)]; omega), fun _ => ?_⟩⟩
      have := scan n 0 (by omega) none (fun s hs => absurd hs (by omega)) o7
      rw [Nat.add_zero (400 * i), ← e4] at this
      exact this
  -- the first part: how many go on
  have first : ∀ m j, m + j = n → ∀ (z1 : st_T), K1 z z1 i → (∀ s, s < j → z1.2.1 122 (400 * i + s) = zb (goW W s && decide (beam = 0))) → ∀ o5 o6 o7, J 6 0 0 [some (.ref 117), some (.int (nI i)), some (.int (nI beam)), some (.int (nI (dcn (goW W) j))), some (.int (nI (400 * i + j))), o5, o6, o7] [] (st_h z1) := by
    intro m
    induction m with
    | zero =>
      intro j hj z1 hK hA o5 o6 o7
      have hjn : j = n := by omega
      subst hjn
      refine ri_go hJ [49] 90 6 rfl ?_
      refine ⟨vi, fun _ => ⟨fun q => ?_, fun q => ⟨rfl, ?_, z1, rfl, fun s hs => ?_, hK⟩⟩, fun q => absurd (show (400 : Int32) * nI i + z1.2.1 117 (nI i).toNatClampNeg ≤ nI (400 * i + j) from ?_) q⟩
      · have q : ¬ nI beam = nI 0 := q
        rw [nn_eq (by omega) (by decide)] at q
        refine pick (by omega) (nrw beam W j).length 0 (by omega) z1 hK (fun s hs => ?_) _ _ _
        rw [hA s hs, decide_eq_false q, Bool.and_false]; rfl
      · have q : nI beam = nI 0 := Decidable.not_not.mp q
        rw [nn_eq (by omega) (by decide)] at q
        rw [q]; rfl
      · have q : nI beam = nI 0 := Decidable.not_not.mp q
        rw [nn_eq (by omega) (by decide)] at q
        rw [hA s hs, decide_eq_true q, Bool.and_true]
        unfold alv
        rw [if_pos q]
      · rw [hmany z1 hK]; exact nI_le (Nat.le_refl _) (by omega)
    | succ m ih =>
      intro j hj z1 hK hA o5 o6 o7
      have ej : nI (400 * i + j) + 1 = nI (400 * i + (j + 1)) := nI_1 _
      have vj : vp_in (nI (400 * i + j)) 6400 := vp_in_nI (by omega) (by decide)
      have cj : (nI (400 * i + j)).toNatClampNeg = 400 * i + j := cl31 (by omega)
      obtain ⟨wl, -⟩ := hway z1 hK j (by omega)
      have hl4 := (hW j (by omega)).2.1
      have el : z1.2.1 121 (nI (400 * i + j)).toNatClampNeg = nI (W j).length := by rw [cj]; exact wl
      have nx : ∀ g x : Bool, g = goW W j → x = (goW W j && decide (beam = 0)) → J 6 0 0 [some (.ref 117), some (.int (nI i)), some (.int (nI beam)), some (.int (nI (dcn (goW W) j) + zb g)), some (.int (nI (400 * i + j) + 1)), o5, o6, o7] [] (st_h (fa z1 122 (upd (z1.2.1 122) (nI (400 * i + j)).toNatClampNeg (vp_nar .boolean (zb x))))) := by
        intro g x hg hx
        have := ih (j + 1) (by omega) (fa z1 122 (upd (z1.2.1 122) (nI (400 * i + j)).toNatClampNeg (vp_nar .boolean (zb x)))) ⟨fun q hq => ?_, mm_tr hK.2 (mm_fa (by decide))⟩ (fun s hs => ?_) o5 o6 o7
        · rw [← ej, dcn_st, ← hg] at this
          exact this
        · rw [fa_self, cj, pk_un (by omega)]; exact hK.1 q hq
        · rw [fa_self, cj]
          by_cases e : s = j
          · rw [e, pk_us, nar_zb, hx]
          · rw [pk_un (by omega)]; exact hA s (by omega)
      refine ri_go hJ [6] 90 6 rfl ?_
      refine ⟨vi, fun q => absurd (show (400 : Int32) * nI i + z1.2.1 117 (nI i).toNatClampNeg ≤ nI (400 * i + j) from q) (by rw [hmany z1 hK]; exact nI_ge (by omega) (by omega)), fun _ => ⟨vj, fun q => ⟨vj, fun q2 => ⟨vj, nx false false ?_ ?_⟩, fun q2 => absurd q q2⟩, fun q => ⟨vj, fun q2 => absurd q2 q, fun q2 => ⟨fun q3 => ⟨vj, nx true false ?_ ?_⟩, fun q3 => ⟨vj, nx true true ?_ ?_⟩⟩⟩⟩⟩
      · have q : z1.2.1 121 (nI (400 * i + j)).toNatClampNeg ≤ nI 0 := q
        rw [el, nn_le (by omega) (by decide)] at q
        exact (Bool.eq_false_iff.mpr (fun h => (hgo j).mp h (by omega))).symm
      · have q : z1.2.1 121 (nI (400 * i + j)).toNatClampNeg ≤ nI 0 := q
        rw [el, nn_le (by omega) (by decide)] at q
        rw [Bool.eq_false_iff.mpr (fun h => (hgo j).mp h (by omega))]; rfl
      · have q : ¬ z1.2.1 121 (nI (400 * i + j)).toNatClampNeg ≤ nI 0 := q
        rw [el, nn_le (by omega) (by decide)] at q
        exact ((hgo j).mpr (by omega)).symm
      · have q3 : ¬ nI beam = nI 0 := q3
        rw [nn_eq (by omega) (by decide)] at q3
        rw [decide_eq_false q3, Bool.and_false]
      · have q : ¬ z1.2.1 121 (nI (400 * i + j)).toNatClampNeg ≤ nI 0 := q
        rw [el, nn_le (by omega) (by decide)] at q
        exact ((hgo j).mpr (by omega)).symm
      · have q : ¬ z1.2.1 121 (nI (400 * i + j)).toNatClampNeg ≤ nI 0 := q
        rw [el, nn_le (by omega) (by decide)] at q
        have q3 : nI beam = nI 0 := Decidable.not_not.mp q3
        rw [nn_eq (by omega) (by decide)] at q3
        rw [decide_eq_true q3, (hgo j).mpr (by omega)]; rfl
  refine ri_run_ok hJ [6] 90 0 0 0 _ _ _ ?_
  have := first n 0 (by omega) z ⟨fun _ _ => rfl, mm_rf _ _ _⟩ (fun s hs => absurd hs (by omega)) none none none
  rw [Nat.add_zero (400 * i), ← e4] at this
  exact this
