/-! THE REFERENCE: firstBarred -/
theorem any_cons2 (f : Nat → Bool) (x : Nat) (X : List Nat) : (x :: X).any f = (f x || X.any f) := List.any_cons
set_option maxHeartbeats 4000000 in
theorem e10_firstBarredG (l : Launch) (z : st_T) (T : tT) (hW : TW T) (hM : RM z T) (X : Nat → List Nat) (c : Nat → Nat → Bool) (hA : ∀ i, i < T 8 2 → z.2.1 117 i = nI (X i).length ∧ MS z T i (X i)) (h4 : ∀ i, i < T 8 2 → (X i).length ≤ 400) (hC : ∀ i (s x : Nat), (X i)[s]? = some x → CK x) (hc0 : ∀ x, c 0 x = true) (hcs : ∀ i y, c (i + 1) y = (X i).any (fun x => c i x && alw T x y)) : ri_Ev l y10_firstBarred w10_firstBarred r10_firstBarred 0 0 [.ref 117] (st_h z) (fun r h' => ∃ z', r = some (.int (n9 (fuG X c (T 8 2) 0))) ∧ h' = st_h z' ∧ mm [35] [123] z z' ∧ ∀ i, i < 90 → fuG X c (T 8 2) 0 = i + 1 → z'.1 101 35 = orL (fun y => orL (sbG T (c i) y) (X i)) (X (i + 1))) := by
  refine ri_ev (t10_firstBarred l _) rfl rfl rfl (Nat.le_of_ble_eq_true rfl) rfl (z10_firstBarred l _) (fun J hJ => ?_)
  have hn := hW.1
  have v0 : vp_in 0 16 := vp_in_nI (n := 0) (by decide) (by decide)
  have m1 : ∀ z1, mm [35] [123] z z1 → RM z1 T ∧ (∀ i, i < T 8 2 → z1.2.1 117 i = nI (X i).length ∧ MS z1 T i (X i)) := by
    intro z1 hm
    refine ⟨RM_mm hM hm (by decide) (by decide), fun i hi => ⟨?_, MS_mm (hA i hi).2 (hm.1 114 (by decide)) (hm.1 115 (by decide)) (hm.1 116 (by decide))⟩⟩
    rw [hm.1 117 (by decide)]; exact (hA i hi).1
  -- the places, one by one
  have k27 : ∀ n i, n + (i + 1) = T 8 2 → fuG X c (T 8 2) 0 = fuG X c n (i + 1) → ∀ z1, mm [35] [123] z z1 → IC z1 (c i) i (X i) → ∀ o2 o3 o4 o5, J 27 0 0 [some (.ref 117), some (.int (nI (i + 1))), o2, o3, o4, o5] [] (st_h z1) := by
    intro n
    induction n with
    | zero =>
      intro i hi hf z1 hm hIC o2 o3 o4 o5
      obtain ⟨hM1, hA1⟩ := m1 z1 hm
      refine ri_go hJ [] 90 27 rfl ?_
      refine ⟨fun _ => ⟨z1, ?_, rfl, hm, fun j hj90 hj => ?_⟩, fun q => absurd (show z1.1 101 7 ≤ nI (i + 1) from ?_) q⟩
      · rw [hf]; rfl
      · rw [hf] at hj
        have : (99 : Nat) = j + 1 := hj
        omega
      · rw [hM1.1.2.2]; exact nI_le (by omega) (by omega)
    | succ n ih =>
      intro i hi hf z1 hm hIC o2 o3 o4 o5
      obtain ⟨hM1, hA1⟩ := m1 z1 hm
      have e1 : nI (i + 1) + 1 = nI (i + 1 + 1) := nI_1 (i + 1)
      have hl0 := h4 i (by omega)
      have hl1 := h4 (i + 1) (by omega)
      have e4 : 400 * nI (i + 1) = nI (400 * (i + 1)) := by show nI 400 * nI (i + 1) = _; rw [pk_mul]
      have e40 : 400 * (nI (i + 1) - 1) = nI (400 * i) := by rw [nI_pred]; show nI 400 * nI i = _; rw [pk_mul]
      have vi : vp_in (nI (i + 1)) 16 := vp_in_nI (by omega) (by decide)
      have vi0 : vp_in (nI (i + 1) - 1) 16 := by rw [nI_pred]; exact vp_in_nI (by omega) (by decide)
      have ci : (nI (i + 1)).toNatClampNeg = i + 1 := cl31 (by omega)
      have ci0 : (nI (i + 1) - 1).toNatClampNeg = i := by rw [nI_pred]; exact cl31 (by omega)
      -- behind the last state of the place
      have k120 : ∀ (b : Bool) (z2 : st_T), b = (X (i + 1)).any (c (i + 1)) → mm [35] [123] z z2 → IC z2 (c (i + 1)) (i + 1) (X (i + 1)) → z2.1 101 35 = orL (fun y => orL (sbG T (c i) y) (X i)) (X (i + 1)) → ∀ o3 o4 o5, J 120 0 0 [some (.ref 117), some (.int (nI (i + 1))), some (.int (zb b)), o3, o4, o5] [] (st_h z2) := by
        intro b z2 hb hm2 hIC2 h35 o3 o4 o5
        have hg : fuG X c (n + 1) (i + 1) = if (X (i + 1)).any (c (i + 1)) = true then fuG X c n (i + 1 + 1) else i + 1 := rfl
        refine ri_go hJ [27] 90 120 rfl ?_
        refine ⟨fun q => ?_, fun q => ⟨z2, ?_, rfl, hm2, fun j hj90 hj => ?_⟩⟩
        · have q := zb_1.mp q
          rw [hb] at q
          have := ih (i + 1) (by omega) (by rw [hf, hg, if_pos q]) z2 hm2 hIC2 (some (.int (zb b))) o3 o4 o5
          rw [← e1] at this
          exact this
        · have q := zb_0.mp (Decidable.not_not.mp q)
          rw [hb] at q
          rw [hf, hg, if_neg (by rw [q]; decide)]
          unfold n9
          rw [if_neg (by omega)]
        · have q := zb_0.mp (Decidable.not_not.mp q)
          rw [hb] at q
          rw [hf, hg, if_neg (by rw [q]; decide)] at hj
          rw [show j = i by omega]
          exact h35
      -- the states of the place
      have tloop : ∀ m j, m + j = (X (i + 1)).length → ∀ (b : Bool) (a : Int32) (z2 : st_T), (b || ((X (i + 1)).drop j).any (c (i + 1))) = (X (i + 1)).any (c (i + 1)) → a ||| orL (fun y => orL (sbG T (c i) y) (X i)) ((X (i + 1)).drop j) = orL (fun y => orL (sbG T (c i) y) (X i)) (X (i + 1)) → mm [35] [123] z z2 → IC z2 (c i) i (X i) → (∀ (s x : Nat), (X (i + 1))[s]? = some x → s < j → z2.2.1 123 (400 * (i + 1) + s) = zb (c (i + 1) x)) → z2.1 101 35 = a → ∀ o4 o5, J 40 0 0 [some (.ref 117), some (.int (nI (i + 1))), some (.int (zb b)), some (.int (nI (400 * (i + 1) + j))), o4, o5] [] (st_h z2) := by
        intro m
        induction m with
        | zero =>
          intro j hj b a z2 hb ha hm2 hI2 hI3 h35 o4 o5
          obtain ⟨hM2, hA2⟩ := m1 z2 hm2
          have ed : (X (i + 1)).drop j = [] := List.drop_eq_nil_of_le (by omega)
          rw [ed] at hb ha
          have eb : (400 : Int32) * nI (i + 1) + z2.2.1 117 (nI (i + 1)).toNatClampNeg = nI (400 * (i + 1) + (X (i + 1)).length) := by rw [ci, (hA2 (i + 1) (by omega)).1, e4, nI_add]
          refine ri_go hJ [120] 90 40 rfl ?_
          refine ⟨vi, fun _ => k120 b z2 (by rw [← hb]; show b = (b || false); rw [Bool.or_false]) hm2 (fun s x hs => hI3 s x hs (by have := (List.getElem?_eq_some_iff.mp hs).1; omega)) (by rw [h35, ← ha]; exact (i_or0 a).symm) _ _ _, fun q => absurd (show (400 : Int32) * nI (i + 1) + z2.2.1 117 (nI (i + 1)).toNatClampNeg ≤ nI (400 * (i + 1) + j) from ?_) q⟩
          rw [eb]; exact nI_le (by omega) (by omega)
        | succ m ihm =>
          intro j hj b a z2 hb ha hm2 hI2 hI3 h35 o4 o5
          obtain ⟨hM2, hA2⟩ := m1 z2 hm2
          obtain ⟨y, hy⟩ : ∃ y, (X (i + 1))[j]? = some y := ⟨_, List.getElem?_eq_getElem (by omega)⟩
          have hyC := hC _ _ _ hy
          have hdr := drop_cons hy
          rw [hdr, any_cons2] at hb
          rw [hdr, orL_cons2] at ha
          have et : nI (400 * (i + 1) + j) + 1 = nI (400 * (i + 1) + (j + 1)) := nI_1 _
          have vt : vp_in (nI (400 * (i + 1) + j)) 6400 := vp_in_nI (by omega) (by decide)
          have ct : (nI (400 * (i + 1) + j)).toNatClampNeg = 400 * (i + 1) + j := cl31 (by omega)
          have eb : (400 : Int32) * nI (i + 1) + z2.2.1 117 (nI (i + 1)).toNatClampNeg = nI (400 * (i + 1) + (X (i + 1)).length) := by rw [ci, (hA2 (i + 1) (by omega)).1, e4, nI_add]
          -- behind the states of the place before
          have k107 : ∀ (z3 : st_T), mm [35] [123] z z3 → IC z3 (c i) i (X i) → (∀ (s x : Nat), (X (i + 1))[s]? = some x → s < j + 1 → z3.2.1 123 (400 * (i + 1) + s) = zb (c (i + 1) x)) → z3.1 101 35 = a ||| orL (sbG T (c i) y) (X i) → ∀ o4 o5, J 107 0 0 [some (.ref 117), some (.int (nI (i + 1))), some (.int (zb b)), some (.int (nI (400 * (i + 1) + j))), o4, o5] [] (st_h z3) := by
            intro z3 hm3 hI4 hI5 h353 o4 o5
            have ez : z3.2.1 123 (nI (400 * (i + 1) + j)).toNatClampNeg = zb (c (i + 1) y) := by rw [ct]; exact hI5 j y hy (by omega)
            have nx : ∀ b2 : Bool, b2 = (b || c (i + 1) y) → J 40 0 0 [some (.ref 117), some (.int (nI (i + 1))), some (.int (zb b2)), some (.int (nI (400 * (i + 1) + j) + 1)), o4, o5] [] (st_h z3) := by
              intro b2 h2
              have := ihm (j + 1) (by omega) b2 _ z3 (by rw [h2, Bool.or_assoc]; exact hb) (by rw [i_ora]; exact ha) hm3 hI4 hI5 h353 o4 o5
              rw [← et] at this
              exact this
            refine ri_go hJ [40] 90 107 rfl ?_
            refine ⟨fun q => nx true ?_, fun q => ⟨vt, fun q2 => nx false ?_, fun q2 => nx true ?_⟩⟩
            · rw [zb_1.mp q]; rfl
            · have q := zb_0.mp (Decidable.not_not.mp q)
              have q2 : z3.2.1 123 (nI (400 * (i + 1) + j)).toNatClampNeg = 0 := q2
              rw [ez] at q2
              rw [q, zb_0.mp q2]; rfl
            · have q2 : ¬ z3.2.1 123 (nI (400 * (i + 1) + j)).toNatClampNeg = 0 := q2
              rw [ez] at q2
              rw [zb_1.mp q2, Bool.or_true]
          -- the states of the place before
          have sloop : ∀ m' k, m' + k = (X i).length → ∀ (d : Bool) (a' : Int32) (z3 : st_T), (d || ((X i).drop k).any (fun x => c i x && alw T x y)) = c (i + 1) y → a' ||| orL (sbG T (c i) y) ((X i).drop k) = a ||| orL (sbG T (c i) y) (X i) → mm [35] [123] z z3 → IC z3 (c i) i (X i) → (∀ (s x : Nat), (X (i + 1))[s]? = some x → s < j → z3.2.1 123 (400 * (i + 1) + s) = zb (c (i + 1) x)) → z3.2.1 123 (400 * (i + 1) + j) = zb d → z3.1 101 35 = a' → ∀ o5, J 61 0 0 [some (.ref 117), some (.int (nI (i + 1))), some (.int (zb b)), some (.int (nI (400 * (i + 1) + j))), some (.int (nI (400 * i + k))), o5] [] (st_h z3) := by
            intro m'
            induction m' with
            | zero =>
              intro k hk d a' z3 hd ha' hm3 hI4 hI5 hzd h353 o5
              obtain ⟨hM3, hA3⟩ := m1 z3 hm3
              have ed : (X i).drop k = [] := List.drop_eq_nil_of_le (by omega)
              rw [ed] at hd ha'
              have eb0 : (400 : Int32) * (nI (i + 1) - 1) + z3.2.1 117 (nI (i + 1) - 1).toNatClampNeg = nI (400 * i + (X i).length) := by rw [ci0, (hA3 i (by omega)).1, e40, nI_add]
              refine ri_go hJ [107] 90 61 rfl ?_
              refine ⟨vi0, fun _ => k107 z3 hm3 hI4 (fun s x hs hsj => ?_) (by rw [h353, ← ha']; exact (i_or0 a').symm) _ _, fun q => absurd (show (400 : Int32) * (nI (i + 1) - 1) + z3.2.1 117 (nI (i + 1) - 1).toNatClampNeg ≤ nI (400 * i + k) from ?_) q⟩
              · by_cases e : s = j
                · subst e
                  rw [hy] at hs
                  cases hs
                  rw [hzd, ← hd]; show zb d = zb (d || false); rw [Bool.or_false]
                · exact hI5 s x hs (by omega)
              · rw [eb0]; exact nI_le (by omega) (by omega)
            | succ m' ihs =>
              intro k hk d a' z3 hd ha' hm3 hI4 hI5 hzd h353 o5
              obtain ⟨hM3, hA3⟩ := m1 z3 hm3
              obtain ⟨x, hx⟩ : ∃ x, (X i)[k]? = some x := ⟨_, List.getElem?_eq_getElem (by omega)⟩
              have hxC := hC _ _ _ hx
              have hdr2 := drop_cons hx
              rw [hdr2, any_cons2] at hd
              rw [hdr2, orL_cons2] at ha'
              have es : nI (400 * i + k) + 1 = nI (400 * i + (k + 1)) := nI_1 _
              have vs : vp_in (nI (400 * i + k)) 6400 := vp_in_nI (by omega) (by decide)
              have cs : (nI (400 * i + k)).toNatClampNeg = 400 * i + k := cl31 (by omega)
              have ez : z3.2.1 123 (nI (400 * i + k)).toNatClampNeg = zb (c i x) := by rw [cs]; exact hI4 k x hx
              have eb0 : (400 : Int32) * (nI (i + 1) - 1) + z3.2.1 117 (nI (i + 1) - 1).toNatClampNeg = nI (400 * i + (X i).length) := by rw [ci0, (hA3 i (by omega)).1, e40, nI_add]
              refine ri_go hJ [61] 90 61 rfl ?_
              refine ⟨vi0, fun q => absurd (show (400 : Int32) * (nI (i + 1) - 1) + z3.2.1 117 (nI (i + 1) - 1).toNatClampNeg ≤ nI (400 * i + k) from q) (by rw [eb0]; exact nI_ge (by omega) (by omega)), fun _ => ⟨vs, fun q => ?_, fun q => ?_⟩⟩
              · have q : z3.2.1 123 (nI (400 * i + k)).toNatClampNeg = 0 := q
                rw [ez] at q
                have q := zb_0.mp q
                have := ihs (k + 1) (by omega) d a' z3 (by rw [q] at hd; exact hd) (by rw [← ha']; unfold sbG; rw [if_neg (by rw [q]; decide), i_0or]) hm3 hI4 hI5 hzd h353 o5
                rw [← es] at this
                exact this
              · have q : ¬ z3.2.1 123 (nI (400 * i + k)).toNatClampNeg = 0 := q
                rw [ez] at q
                have q := zb_1.mp q
                refine ⟨_, e10_barsStep l z3 T hW hM3 (s := 400 * i + k) (t := 400 * (i + 1) + j) (x := x) (y := y) (by omega) (by omega) hxC hyC (EC_of ((hA3 i (by omega)).2 k x hx (by omega))) (EC_of ((hA3 (i + 1) (by omega)).2 j y hy (by omega))), ?_⟩
                rintro r h' ⟨rfl, rfl⟩
                have hz4 : ∀ d2 : Bool, (d2 = (d || alw T x y)) → J 61 0 0 [some (.ref 117), some (.int (nI (i + 1))), some (.int (zb b)), some (.int (nI (400 * (i + 1) + j))), some (.int (nI (400 * i + k) + 1)), some (.int (brs T x y))] [] (st_h (fa (fs z3 101 35 (z3.1 101 35 ||| brs T x y)) 123 (upd (z3.2.1 123) (nI (400 * (i + 1) + j)).toNatClampNeg (vp_nar .boolean (zb d2))))) := by
                  intro d2 h2
                  have := ihs (k + 1) (by omega) d2 (a' ||| brs T x y) (fa (fs z3 101 35 (z3.1 101 35 ||| brs T x y)) 123 (upd (z3.2.1 123) (nI (400 * (i + 1) + j)).toNatClampNeg (vp_nar .boolean (zb d2)))) (by rw [h2, Bool.or_assoc]; rw [q, Bool.true_and] at hd; exact hd) (by rw [i_ora, ← ha']; unfold sbG; rw [if_pos q]) (mm_tr hm3 (mm_tr (mm_fs (by decide)) (mm_fa (by decide)))) (fun s' x' hs' => ?_) (fun s' x' hs' hsj => ?_) ?_ ?_ (some (.int (brs T x y)))
                  · rw [← es] at this
                    exact this
                  · have := (List.getElem?_eq_some_iff.mp hs').1
                    rw [fa_self, ct, pk_un (by omega)]; exact hI4 s' x' hs'
                  · rw [fa_self, ct, pk_un (by omega)]; exact hI5 s' x' hs' hsj
                  · rw [fa_self, ct, pk_us, nar_zb]
                  · show (fs z3 101 35 (z3.1 101 35 ||| brs T x y)).1 101 35 = _
                    rw [fs_self, h353]
                have ezd : z3.2.1 123 (nI (400 * (i + 1) + j)).toNatClampNeg = zb d := by rw [ct]; exact hzd
                refine ⟨vt, fun q2 => ⟨vt, hz4 true ?_⟩, fun q2 => ⟨fun q3 => ⟨vt, hz4 false ?_⟩, fun q3 => ⟨vt, hz4 true ?_⟩⟩⟩
                · have q2 : ¬ z3.2.1 123 (nI (400 * (i + 1) + j)).toNatClampNeg = 0 := q2
                  rw [ezd] at q2
                  rw [zb_1.mp q2]; rfl
                · have q2 : z3.2.1 123 (nI (400 * (i + 1) + j)).toNatClampNeg = 0 := Decidable.not_not.mp q2
                  rw [ezd] at q2
                  have q3 : ¬ brs T x y = 0 := q3
                  rw [alw_brs] at q3
                  rw [zb_0.mp q2, Bool.eq_false_iff.mpr q3]; rfl
                · have q3 : brs T x y = 0 := Decidable.not_not.mp q3
                  rw [alw_brs] at q3
                  rw [q3, Bool.or_true]
          refine ri_go hJ [61] 90 40 rfl ?_
          refine ⟨vi, fun q => absurd (show (400 : Int32) * nI (i + 1) + z2.2.1 117 (nI (i + 1)).toNatClampNeg ≤ nI (400 * (i + 1) + j) from q) (by rw [eb]; exact nI_ge (by omega) (by omega)), fun _ => ⟨vt, ?_⟩⟩
          have := sloop (X i).length 0 (by omega) false a (fa z2 123 (upd (z2.2.1 123) (nI (400 * (i + 1) + j)).toNatClampNeg (vp_nar .boolean 0))) (by rw [List.drop_zero, hcs]; rfl) (by rw [List.drop_zero]) (mm_tr hm2 (mm_fa (by decide))) (fun s' x' hs' => ?_) (fun s' x' hs' hsj => ?_) ?_ h35 o5
          · rw [Nat.add_zero (400 * i), ← e40] at this
            exact this
          · have := (List.getElem?_eq_some_iff.mp hs').1
            rw [fa_self, ct, pk_un (by omega)]; exact hI2 s' x' hs'
          · rw [fa_self, ct, pk_un (by omega)]; exact hI3 s' x' hs' hsj
          · rw [fa_self, ct, pk_us]; rfl
      refine ri_go hJ [40] 90 27 rfl ?_
      refine ⟨fun q => absurd (show z1.1 101 7 ≤ nI (i + 1) from q) (by rw [hM1.1.2.2]; exact nI_ge (by omega) (by omega)), fun _ => ?_⟩
      have := tloop (X (i + 1)).length 0 (by omega) false 0 (fs z1 101 35 0) (by rw [List.drop_zero]; rfl) (by rw [List.drop_zero, i_0or]) (mm_tr hm (mm_fs (by decide))) hIC (fun s x _ h => absurd h (by omega)) (fs_self _ _ _ _) o4 o5
      rw [Nat.add_zero (400 * (i + 1)), ← e4] at this
      exact this
  -- rows come to all states of the first place
  have l1 := (hA 0 (by omega)).1
  have h40 := h4 0 (by omega)
  have k18 : ∀ z1, mm [35] [123] z z1 → IC z1 (c 0) 0 (X 0) → ∀ o1 o2 o3 o4 o5, J 18 0 0 [some (.ref 117), o1, o2, o3, o4, o5] [] (st_h z1) := by
    intro z1 hm hIC o1 o2 o3 o4 o5
    have e0 : z1.2.1 117 (0 : Int32).toNatClampNeg = nI (X 0).length := by
      show z1.2.1 117 0 = _
      rw [hm.1 117 (by decide)]; exact l1
    obtain ⟨m, hm8⟩ : ∃ m, T 8 2 = m + 1 := ⟨T 8 2 - 1, by omega⟩
    have hg : fuG X c (m + 1) 0 = if (X 0).any (c 0) = true then fuG X c m (0 + 1) else 0 := rfl
    refine ri_go hJ [27] 90 18 rfl ?_
    refine ⟨v0, fun q => ?_, fun q => ⟨z1, ?_, rfl, hm, fun j hj90 hj => ?_⟩⟩
    · have q : ¬ z1.2.1 117 (0 : Int32).toNatClampNeg = nI 0 := q
      rw [e0, nn_eq (by omega) (by decide)] at q
      refine k27 m 0 (by omega) ?_ z1 hm hIC _ _ _ _
      rw [hm8, hg, if_pos]
      rw [List.any_eq_true]
      obtain ⟨x, hx⟩ : ∃ x, (X 0)[0]? = some x := ⟨_, List.getElem?_eq_getElem (by omega)⟩
      exact ⟨x, List.mem_of_getElem? hx, hc0 x⟩
    · have q : z1.2.1 117 (0 : Int32).toNatClampNeg = nI 0 := Decidable.not_not.mp q
      rw [e0, nn_eq (by omega) (by decide)] at q
      rw [hm8, hg, List.length_eq_zero_iff.mp q]; rfl
    · have q : z1.2.1 117 (0 : Int32).toNatClampNeg = nI 0 := Decidable.not_not.mp q
      rw [e0, nn_eq (by omega) (by decide)] at q
      rw [hm8, hg, List.length_eq_zero_iff.mp q] at hj
      have : (0 : Nat) = j + 1 := hj
      omega
  have k5 : ∀ n s, n + s = (X 0).length → ∀ z1, mm [35] [123] z z1 → (∀ s', s' < s → z1.2.1 123 s' = 1) → ∀ o2 o3 o4 o5, J 5 0 0 [some (.ref 117), some (.int (nI s)), o2, o3, o4, o5] [] (st_h z1) := by
    intro n
    induction n with
    | zero =>
      intro s hs z1 hm hI o2 o3 o4 o5
      have e0 : z1.2.1 117 (0 : Int32).toNatClampNeg = nI (X 0).length := by
        show z1.2.1 117 0 = _
        rw [hm.1 117 (by decide)]; exact l1
      refine ri_go hJ [18] 90 5 rfl ?_
      refine ⟨v0, fun _ => k18 z1 hm (fun s' x hx => ?_) _ _ _ _ _, fun q => absurd (show z1.2.1 117 (0 : Int32).toNatClampNeg ≤ nI s from ?_) q⟩
      · have := (List.getElem?_eq_some_iff.mp hx).1
        rw [Nat.mul_zero, Nat.zero_add, hI s' (by omega), hc0]; rfl
      · rw [e0]; exact nI_le (by omega) (by omega)
    | succ n ih =>
      intro s hs z1 hm hI o2 o3 o4 o5
      have e1 := nI_1 s
      have e0 : z1.2.1 117 (0 : Int32).toNatClampNeg = nI (X 0).length := by
        show z1.2.1 117 0 = _
        rw [hm.1 117 (by decide)]; exact l1
      have cs : (nI s).toNatClampNeg = s := cl31 (by omega)
      refine ri_go hJ [5] 90 5 rfl ?_
      refine ⟨v0, fun q => absurd (show z1.2.1 117 (0 : Int32).toNatClampNeg ≤ nI s from q) (by rw [e0]; exact nI_ge (by omega) (by omega)), fun _ => ⟨vp_in_nI (by omega) (by decide), ?_⟩⟩
      have := ih (s + 1) (by omega) (fa z1 123 (upd (z1.2.1 123) (nI s).toNatClampNeg (vp_nar .boolean 1))) (mm_tr hm (mm_fa (by decide))) (fun s' hs' => ?_) o2 o3 o4 o5
      · rw [← e1] at this
        exact this
      · rw [fa_self, cs]
        by_cases e : s' = s
        · rw [e, pk_us]; rfl
        · rw [pk_un e]; exact hI s' (by omega)
  refine ri_run_ok hJ [5] 90 0 0 0 _ _ _ ?_
  exact k5 (X 0).length 0 (by omega) (fs z 101 35 0) (mm_fs (by decide)) (fun s' hs' => absurd hs' (by omega)) none none none none
