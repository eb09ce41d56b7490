/-! THE REFERENCE: goBack -/
theorem lnkF_WO {T : tT} (hW : TW T) {x B : Nat} {Y : List Nat} {W : Nat → wy} (hB : B < 2 ^ 29) : ∀ (A : List Nat) (acc : wy), (∀ t ∈ A, t < 400 ∧ WO B (W t)) → WO (321000 + B) acc → WO (321000 + B) (lnkF T x (cst T x) Y W A acc)
  | [], _, _, h => h
  | t :: A, acc, hA, h => by
    rw [lnkF_cons]
    refine lnkF_WO hW hB A _ (fun u hu => hA u (List.mem_cons_of_mem _ hu)) ?_
    by_cases q : alw T x (Y.getD t 0) = true
    · rw [if_pos q]
      obtain ⟨h1, h2, h3, h4⟩ := hA t (List.mem_cons_self ..)
      have c1 := cst_le hW x
      have c2 := csp_le hW x (Y.getD t 0)
      exact rstF_ok (W t) 0 acc (fun a ha => by
        obtain ⟨j, hj⟩ := List.mem_iff_getElem?.mp ha
        have := (h4 j a hj).1
        omega) (by omega) h.1 h.2.1 h.2.2
    · rw [if_neg q]; exact h
theorem plW_WO {T : tT} (hW : TW T) {X : Nat → List Nat} {beam : Nat} (hl : ∀ i, i < T 8 2 → (X i).length ≤ 400) : ∀ n i, n + i = T 8 2 → i < T 8 2 → ∀ s, s < (X i).length → WO (321000 * n) (plW T X beam i s)
  | 0, i, h1, h2, _, _ => absurd h1 (by omega)
  | n + 1, i, h1, h2, s, hs => by
    have hn := hW.1
    obtain ⟨x, hx⟩ : ∃ x, (X i)[s]? = some x := ⟨_, List.getElem?_eq_getElem hs⟩
    rw [plW_at h2 hx]
    unfold wv
    have c1 := cst_le hW x
    by_cases q : i + 1 = T 8 2
    · rw [if_pos q]; exact WO_one (by omega)
    · rw [if_neg q, show 321000 * (n + 1) = 321000 + 321000 * n by omega]
      refine lnkF_WO hW (by omega) _ _ (fun t ht => ?_) (WO_nil _)
      have ht' := (plA_mem ht).1
      have := hl (i + 1) (by omega)
      exact ⟨by omega, plW_WO hW hl n (i + 1) (by omega) (by omega) t ht'⟩
def Dj (T : tT) (i : Nat) : Nat := if i + 1 = T 8 2 then 0 else 400 * (i + 1)
theorem Dj_le (T : tT) {i : Nat} (h : i < 15) : Dj T i ≤ 6400 := by unfold Dj; split <;> omega
theorem Dj_le2 (T : tT) {i : Nat} (h : i < T 8 2) (hn : T 8 2 ≤ 16) : Dj T i ≤ 6400 := by unfold Dj; split <;> omega
theorem rng_cons {t n : Nat} {P : Nat → Bool} (h : t < n) : (List.range' t (n - t)).filter P = if P t = true then t :: (List.range' (t + 1) (n - (t + 1))).filter P else (List.range' (t + 1) (n - (t + 1))).filter P := by
  rw [show n - t = (n - (t + 1)) + 1 by omega, List.range'_succ, List.filter_cons]
theorem mkA_rng (beam : Nat) (X : List Nat) (W : Nat → wy) : mkA beam X W = (List.range' 0 (X.length - 0)).filter (alv beam W X.length) := by
  unfold mkA
  rw [List.range_eq_range', Nat.sub_zero]
theorem WO_BD {B : Nat} {L : wy} (h : WO B L) (hB : B ≤ 2 ^ 30) : BD (2 ^ 30) L := fun j a ha => ⟨Nat.lt_of_lt_of_le (h.2.2 j a ha).1 hB, (h.2.2 j a ha).2⟩
theorem drop_consW {L : wy} {s : Nat} {x : Nat × Nat} (h : L[s]? = some x) : L.drop s = x :: L.drop (s + 1) := by
  obtain ⟨hl, he⟩ := List.getElem?_eq_some_iff.mp h
  rw [List.drop_eq_getElem_cons hl, he]
theorem rstF_cons (c t r : Nat) (a : Nat × Nat) (W acc : wy) : rstF c t r (a :: W) acc = rstF c t (r + 1) W (insk 4 acc (c + a.1, 4 * t + r)) := rfl
theorem rstF_nil (c t r : Nat) (acc : wy) : rstF c t r [] acc = acc := rfl
/-- ways of place j stand -/
def GW (z : st_T) (T : tT) (X : Nat → List Nat) (beam j n : Nat) : Prop := ∀ s, s < n → WM z (400 * j + s) (plW T X beam j s) (Dj T j)
def GK (z : st_T) (T : tT) (X : Nat → List Nat) (beam j : Nat) : Prop := ∀ s, s < (X j).length → z.2.1 122 (400 * j + s) = zb (alv beam (plW T X beam j) (X j).length s)
theorem WM_mm {z z' : st_T} {s : Nat} {L : wy} {D : Nat} (h : WM z s L D) (h1 : z'.2.1 118 = z.2.1 118) (h2 : z'.2.1 119 = z.2.1 119) (h3 : z'.2.1 120 = z.2.1 120) (h4 : z'.2.1 121 = z.2.1 121) : WM z' s L D := by
  unfold WM ENW
  rw [h1, h2, h3, h4]
  exact h
set_option maxHeartbeats 8000000 in
theorem e10_goBack (l : Launch) (z : st_T) (T : tT) (hW : TW T) (hM : RM z T) (X : Nat → List Nat) {beam : Nat} (hb : beam ≤ 100) (hA : ∀ i, i < T 8 2 → z.2.1 117 i = nI (X i).length ∧ MS z T i (X i)) (h4 : ∀ i, i < T 8 2 → (X i).length ≤ 400) (hC : ∀ i (s x : Nat), (X i)[s]? = some x → CK x) : ri_Ev l y10_goBack w10_goBack r10_goBack 0 0 [.ref 117, .int (nI beam)] (st_h z) (ri_zi (zb (!lefT T X beam)) fun z' => (∀ j, j < T 8 2 → GW z' T X beam j (X j).length ∧ GK z' T X beam j) ∧ mm [] [118, 119, 120, 121, 122] z z') := by
  refine ri_ev (t10_goBack l _) rfl rfl rfl (Nat.le_of_ble_eq_true rfl) rfl (z10_goBack l _) (fun J hJ => ?_)
  have hn := hW.1
  have hWO := fun i hi s hs => plW_WO hW (X := X) (beam := beam) h4 (T 8 2 - i) i (by omega) hi s hs
  have hWl : ∀ i, i < T 8 2 → ∀ s, s < (X i).length → (plW T X beam i s).length ≤ 4 ∧ BD (2 ^ 30) (plW T X beam i s) := fun i hi s hs => ⟨(hWO i hi s hs).1, WO_BD (hWO i hi s hs) (by omega)⟩
  have m1 : ∀ z1, mm [] [118, 119, 120, 121, 122] z z1 → RM z1 T ∧ (∀ i, i < T 8 2 → z1.2.1 117 i = nI (X i).length ∧ MS z1 T i (X i)) := by
    intro z1 hm
    refine ⟨RM_mm hM hm (by decide) (by decide), fun i hi => ⟨?_, MS_mm (hA i hi).2 (hm.1 114 (by decide)) (hm.1 115 (by decide)) (hm.1 116 (by decide))⟩⟩
    rw [hm.1 117 (by decide)]; exact (hA i hi).1
  have outer : ∀ i, i ≤ T 8 2 → ∀ z1, (∀ j, i ≤ j → j < T 8 2 → GW z1 T X beam j (X j).length ∧ GK z1 T X beam j) → mm [] [118, 119, 120, 121, 122] z z1 → ∀ o4 o5 o6 o7 o8, J 7 0 0 [some (.ref 117), some (.int (nI beam)), some (.int (zb (anf (lf T X beam) (T 8 2 - i) i))), some (.int (nI i + (-1))), o4, o5, o6, o7, o8] [] (st_h z1) := by
    intro i
    induction i with
    | zero =>
      intro _ z1 hG hm o4 o5 o6 o7 o8
      refine ri_go hJ [] 90 7 rfl ?_
      refine ⟨fun _ => ⟨fun q => ⟨rfl, ?_, z1, rfl, fun j hj => hG j (Nat.zero_le _) hj, hm⟩, fun q => ⟨rfl, ?_, z1, rfl, fun j hj => hG j (Nat.zero_le _) hj, hm⟩⟩, fun c => absurd (by decide) c⟩
      · have q := zb_1.mp q
        unfold lefT
        rw [Nat.sub_zero] at q
        rw [q]; rfl
      · have q := zb_0.mp (Decidable.not_not.mp q)
        unfold lefT
        rw [Nat.sub_zero] at q
        rw [q]; rfl
    | succ i ih =>
      intro hi z1 hG hm o4 o5 o6 o7 o8
      rw [pk_m1]
      have hi16 : i < 16 := by omega
      have hl := h4 i (by omega)
      have e4 : 400 * nI i = nI (400 * i) := by show nI 400 * nI i = _; rw [pk_mul]
      have vi : vp_in (nI i) 16 := vp_in_nI hi16 (by decide)
      have ci : (nI i).toNatClampNeg = i := cl31 (by omega)
      have hD := Dj_le2 T (i := i) (by omega) hn.2
      -- behind the states of the place
      have k111 : ∀ z2, GW z2 T X beam i (X i).length → (∀ j, i + 1 ≤ j → j < T 8 2 → GW z2 T X beam j (X j).length ∧ GK z2 T X beam j) → mm [] [118, 119, 120, 121, 122] z z2 → ∀ o4 o5 o6 o7 o8, J 111 0 0 [some (.ref 117), some (.int (nI beam)), some (.int (zb (anf (lf T X beam) (T 8 2 - (i + 1)) (i + 1)))), some (.int (nI i)), o4, o5, o6, o7, o8] [] (st_h z2) := by
        intro z2 hGi hGj hm2 o4 o5 o6 o7 o8
        obtain ⟨hM2, hA2⟩ := m1 z2 hm2
        refine ri_go hJ [7] 90 111 rfl ?_
        refine ⟨_, e10_narrow l z2 (i := i) (beam := beam) (n := (X i).length) (D := Dj T i) (W := plW T X beam i) hi16 hb hl (hA2 i (by omega)).1 (fun s hs => ⟨hGi s hs, hWl i (by omega) s hs⟩), ?_⟩
        rintro r h' ⟨rfl, z3, rfl, hk3, hK3⟩
        have hlf : lf T X beam i = (decide (0 < beam) && decide (beam < dcn (goW (plW T X beam i)) (X i).length)) := rfl
        have han : anf (lf T X beam) (T 8 2 - i) i = (lf T X beam i || anf (lf T X beam) (T 8 2 - (i + 1)) (i + 1)) := by rw [show T 8 2 - i = (T 8 2 - (i + 1)) + 1 by omega]; rfl
        have hm3 : mm [] [118, 119, 120, 121, 122] z z3 := mm_tr hm2 (mm_mo hK3.2 (by decide) (by decide))
        have mvW : ∀ j n, GW z2 T X beam j n → GW z3 T X beam j n := fun j n h s hs => WM_mm (h s hs) (hK3.2.1 118 (by decide)) (hK3.2.1 119 (by decide)) (hK3.2.1 120 (by decide)) (hK3.2.1 121 (by decide))
        have nx : ∀ b : Bool, b = anf (lf T X beam) (T 8 2 - i) i → J 7 0 0 [some (.ref 117), some (.int (nI beam)), some (.int (zb b)), some (.int (nI i + (-1))), o4, o5, o6, o7, o8] [] (st_h z3) := by
          intro b hb'
          rw [hb']
          refine ih (by omega) z3 (fun j h1 h2 => ?_) hm3 _ _ _ _ _
          by_cases e : j = i
          · subst e
            exact ⟨mvW _ _ hGi, hk3⟩
          · obtain ⟨g1, g2⟩ := hGj j (by omega) h2
            refine ⟨mvW _ _ g1, fun s hs => ?_⟩
            have := h4 j h2
            rw [hK3.1 _ (by omega)]; exact g2 s hs
        refine ⟨fun q => nx true ?_, fun q => ⟨fun q2 => nx false ?_, fun q2 => nx true ?_⟩⟩
        · rw [han, hlf, zb_1.mp q]; rfl
        · rw [han, hlf, zb_0.mp (Decidable.not_not.mp q), zb_0.mp q2]; rfl
        · rw [han, zb_1.mp q2, Bool.or_true]
      -- the states of the place
      have sloop : ∀ m j, m + j = (X i).length → ∀ z2, GW z2 T X beam i j → (∀ j, i + 1 ≤ j → j < T 8 2 → GW z2 T X beam j (X j).length ∧ GK z2 T X beam j) → mm [] [118, 119, 120, 121, 122] z z2 → ∀ o5 o6 o7 o8, J 13 0 0 [some (.ref 117), some (.int (nI beam)), some (.int (zb (anf (lf T X beam) (T 8 2 - (i + 1)) (i + 1)))), some (.int (nI i)), some (.int (nI (400 * i + j))), o5, o6, o7, o8] [] (st_h z2) := by
        intro m
        induction m with
        | zero =>
          intro j hj z2 hGi hGj hm2 o5 o6 o7 o8
          obtain ⟨hM2, hA2⟩ := m1 z2 hm2
          have hjn : j = (X i).length := by omega
          subst hjn
          have eb : (400 : Int32) * nI i + z2.2.1 117 (nI i).toNatClampNeg = nI (400 * i + (X i).length) := by rw [ci, (hA2 i (by omega)).1, e4, nI_add]
          refine ri_go hJ [111] 90 13 rfl ?_
          refine ⟨vi, fun _ => k111 z2 hGi hGj hm2 _ _ _ _ _, fun q => absurd (show (400 : Int32) * nI i + z2.2.1 117 (nI i).toNatClampNeg ≤ nI (400 * i + (X i).length) from ?_) q⟩
          rw [eb]; exact nI_le (Nat.le_refl _) (by omega)
        | succ m ihm =>
          intro j hj z2 hGi hGj hm2 o5 o6 o7 o8
          obtain ⟨hM2, hA2⟩ := m1 z2 hm2
          have eb : (400 : Int32) * nI i + z2.2.1 117 (nI i).toNatClampNeg = nI (400 * i + (X i).length) := by rw [ci, (hA2 i (by omega)).1, e4, nI_add]
          have ej : nI (400 * i + j) + 1 = nI (400 * i + (j + 1)) := nI_1 _
          have vj : vp_in (nI (400 * i + j)) 6400 := vp_in_nI (by omega) (by decide)
          have cj : (nI (400 * i + j)).toNatClampNeg = 400 * i + j := cl31 (by omega)
          obtain ⟨x, hx⟩ : ∃ x, (X i)[j]? = some x := ⟨_, List.getElem?_eq_getElem (by omega)⟩
          have hxC := hC _ _ _ hx
          have hpl := plW_at (T := T) (St := X) (beam := beam) (i := i) (show i < T 8 2 by omega) hx
          have c1 := cst_le hW x
          -- what may be said of states changed at this one only
          have fr : ∀ z3, W1 z2 z3 (400 * i + j) → (GW z3 T X beam i j) ∧ (∀ j, i + 1 ≤ j → j < T 8 2 → GW z3 T X beam j (X j).length ∧ GK z3 T X beam j) ∧ mm [] [118, 119, 120, 121, 122] z z3 := by
            intro z3 hw
            refine ⟨fun s hs => W1_WM hw (by omega) (hWl i (by omega) s (by omega)).1 (hGi s hs), fun j' h1 h2 => ⟨fun s hs => ?_, fun s hs => ?_⟩, mm_tr hm2 (mm_mo hw.2.2 (by decide) (by decide))⟩
            · have := h4 j' h2
              exact W1_WM hw (by omega) (hWl j' h2 s hs).1 ((hGj j' h1 h2).1 s hs)
            · rw [hw.2.2.1 122 (by decide)]; exact (hGj j' h1 h2).2 s hs
          -- on to the next state
          have k109 : ∀ z3, W1 z2 z3 (400 * i + j) → WM z3 (400 * i + j) (plW T X beam i j) (Dj T i) → ∀ o5 o6 o7 o8, J 109 0 0 [some (.ref 117), some (.int (nI beam)), some (.int (zb (anf (lf T X beam) (T 8 2 - (i + 1)) (i + 1)))), some (.int (nI i)), some (.int (nI (400 * i + j))), o5, o6, o7, o8] [] (st_h z3) := by
            intro z3 hw hwm o5 o6 o7 o8
            obtain ⟨f1, f2, f3⟩ := fr z3 hw
            refine ri_go hJ [13] 90 109 rfl ?_
            have := ihm (j + 1) (by omega) z3 (fun s hs => by
              by_cases e : s = j
              · rw [e]; exact hwm
              · exact f1 s (by omega)) f2 f3 o5 o6 o7 o8
            rw [← ej] at this
            exact this
          have hw0 : W1 z2 (fa z2 121 (upd (z2.2.1 121) (nI (400 * i + j)).toNatClampNeg 0)) (400 * i + j) := by
            refine ⟨fun q hq => ⟨?_, ?_, ?_⟩, fun q hq => ?_, mm_fa (by decide)⟩
            · rw [fa_ne _ _ (by decide)]
            · rw [fa_ne _ _ (by decide)]
            · rw [fa_ne _ _ (by decide)]
            · rw [fa_self, cj, pk_un hq]
          have hwm0 : WM (fa z2 121 (upd (z2.2.1 121) (nI (400 * i + j)).toNatClampNeg 0)) (400 * i + j) [] (Dj T i) := ⟨by rw [fa_self, cj, pk_us]; rfl, fun q a ha => by simp at ha⟩
          -- the places are one behind the other: the states that follow
          have tloop : i + 1 < T 8 2 → ∀ m' t, m' + t = (X (i + 1)).length → ∀ z3 acc, W1 z2 z3 (400 * i + j) → WM z3 (400 * i + j) acc (Dj T i) → WO (321000 * (T 8 2 - i)) acc → (∀ b ∈ acc, b.2 < 4 * t) → lnkF T x (cst T x) (X (i + 1)) (plW T X beam (i + 1)) ((List.range' t ((X (i + 1)).length - t)).filter (alv beam (plW T X beam (i + 1)) (X (i + 1)).length)) acc = plW T X beam i j → ∀ o7 o8, J 52 0 0 [some (.ref 117), some (.int (nI beam)), some (.int (zb (anf (lf T X beam) (T 8 2 - (i + 1)) (i + 1)))), some (.int (nI i)), some (.int (nI (400 * i + j))), some (.int (nI (400 * (i + 1)))), some (.int (nI (400 * (i + 1) + t))), o7, o8] [] (st_h z3) := by
            intro hi1 m'
            have hDi : Dj T i = 400 * (i + 1) := if_neg (by omega)
            have hl1 := h4 (i + 1) hi1
            have vi1 : vp_in (nI i + 1) 16 := by rw [nI_1]; exact vp_in_nI (by omega) (by decide)
            have ci1 : (nI i + 1).toNatClampNeg = i + 1 := by rw [nI_1]; exact cl31 (by omega)
            induction m' with
            | zero =>
              intro t ht z3 acc hw hwm hwo hlk hfin o7 o8
              obtain ⟨f1, f2, f3⟩ := fr z3 hw
              obtain ⟨hM3, hA3⟩ := m1 z3 f3
              have eb1 : nI (400 * (i + 1)) + z3.2.1 117 (nI i + 1).toNatClampNeg = nI (400 * (i + 1) + (X (i + 1)).length) := by rw [ci1, (hA3 (i + 1) hi1).1, nI_add]
              have htn : t = (X (i + 1)).length := by omega
              subst htn
              rw [Nat.sub_self] at hfin
              have hfin : acc = plW T X beam i j := hfin
              refine ri_go hJ [109] 90 52 rfl ?_
              refine ⟨vi1, fun _ => k109 z3 hw (by rw [← hfin]; exact hwm) _ _ _ _, fun q => absurd (show nI (400 * (i + 1)) + z3.2.1 117 (nI i + 1).toNatClampNeg ≤ nI (400 * (i + 1) + (X (i + 1)).length) from ?_) q⟩
              rw [eb1]; exact nI_le (Nat.le_refl _) (by omega)
            | succ m' iht =>
              intro t ht z3 acc hw hwm hwo hlk hfin o7 o8
              obtain ⟨f1, f2, f3⟩ := fr z3 hw
              obtain ⟨hM3, hA3⟩ := m1 z3 f3
              have eb1 : nI (400 * (i + 1)) + z3.2.1 117 (nI i + 1).toNatClampNeg = nI (400 * (i + 1) + (X (i + 1)).length) := by rw [ci1, (hA3 (i + 1) hi1).1, nI_add]
              have et : nI (400 * (i + 1) + t) + 1 = nI (400 * (i + 1) + (t + 1)) := nI_1 _
              have vt : vp_in (nI (400 * (i + 1) + t)) 6400 := vp_in_nI (by omega) (by decide)
              have ct : (nI (400 * (i + 1) + t)).toNatClampNeg = 400 * (i + 1) + t := cl31 (by omega)
              obtain ⟨y, hy⟩ : ∃ y, (X (i + 1))[t]? = some y := ⟨_, List.getElem?_eq_getElem (by omega)⟩
              have hyC := hC _ _ _ hy
              have hyD : (X (i + 1)).getD t 0 = y := by rw [List.getD_eq_getElem?_getD, hy]; rfl
              have ekp : z3.2.1 122 (nI (400 * (i + 1) + t)).toNatClampNeg = zb (alv beam (plW T X beam (i + 1)) (X (i + 1)).length t) := by rw [ct]; exact (f2 (i + 1) (Nat.le_refl _) hi1).2 t (by omega)
              rw [rng_cons (show t < (X (i + 1)).length by omega)] at hfin
              have hWt := (f2 (i + 1) (Nat.le_refl _) hi1).1 t (by omega)
              have hWtO := hWO (i + 1) hi1 t (by omega)
              -- on to the next one
              have k107 : ∀ z4 acc', W1 z2 z4 (400 * i + j) → WM z4 (400 * i + j) acc' (Dj T i) → WO (321000 * (T 8 2 - i)) acc' → (∀ b ∈ acc', b.2 < 4 * (t + 1)) → lnkF T x (cst T x) (X (i + 1)) (plW T X beam (i + 1)) ((List.range' (t + 1) ((X (i + 1)).length - (t + 1))).filter (alv beam (plW T X beam (i + 1)) (X (i + 1)).length)) acc' = plW T X beam i j → ∀ o7 o8, J 107 0 0 [some (.ref 117), some (.int (nI beam)), some (.int (zb (anf (lf T X beam) (T 8 2 - (i + 1)) (i + 1)))), some (.int (nI i)), some (.int (nI (400 * i + j))), some (.int (nI (400 * (i + 1)))), some (.int (nI (400 * (i + 1) + t))), o7, o8] [] (st_h z4) := by
                intro z4 acc' g1 g2 g3 g4 g5 o7 o8
                refine ri_go hJ [52] 90 107 rfl ?_
                have := iht (t + 1) (by omega) z4 acc' g1 g2 g3 g4 g5 o7 o8
                rw [← et] at this
                exact this
              refine ri_go hJ [107, 81] 90 52 rfl ?_
              refine ⟨vi1, fun q => absurd (show nI (400 * (i + 1)) + z3.2.1 117 (nI i + 1).toNatClampNeg ≤ nI (400 * (i + 1) + t) from q) (by rw [eb1]; exact nI_ge (by omega) (by omega)), fun _ => ⟨vt, fun q => ?_, fun q => ?_⟩⟩
              · have q : z3.2.1 122 (nI (400 * (i + 1) + t)).toNatClampNeg = 0 := q
                rw [ekp] at q
                rw [if_neg (by rw [zb_0.mp q]; decide)] at hfin
                exact k107 z3 acc hw hwm hwo (fun b hb' => by have := hlk b hb'; omega) hfin _ _
              · have q : ¬ z3.2.1 122 (nI (400 * (i + 1) + t)).toNatClampNeg = 0 := q
                rw [ekp] at q
                rw [if_pos (zb_1.mp q), lnkF_cons, hyD] at hfin
                have hEx := EC_of ((hA3 i (by omega)).2 j x hx (by omega))
                have hEy := EC_of ((hA3 (i + 1) hi1).2 t y hy (by omega))
                refine ⟨_, e10_barsStep l z3 T hW hM3 (s := 400 * i + j) (t := 400 * (i + 1) + t) (x := x) (y := y) (by omega) (by omega) hxC hyC hEx hEy, ?_⟩
                rintro r h' ⟨rfl, rfl⟩
                refine ⟨fun q2 => ?_, fun q2 => ⟨vj, ?_⟩⟩
                · have q2 : ¬ brs T x y = 0 := q2
                  rw [alw_brs] at q2
                  rw [if_neg q2] at hfin
                  exact k107 z3 acc hw hwm hwo (fun b hb' => by have := hlk b hb'; omega) hfin _ _
                · have q2 : brs T x y = 0 := Decidable.not_not.mp q2
                  rw [alw_brs] at q2
                  rw [if_pos q2] at hfin
                  have hu9 : ¬ unt (chd x) (chd y) = 9 := by
                    intro e
                    unfold alw b7 at q2
                    rw [e] at q2
                    cases q2
                  have ec : z3.2.1 116 (nI (400 * i + j)).toNatClampNeg = nI (cst T x) := by rw [cj]; exact ((hA3 i (by omega)).2 j x hx (by omega)).2.2
                  refine ⟨_, e10_costOfStep l z3 T hW hM3 (s := 400 * i + j) (t := 400 * (i + 1) + t) (x := x) (y := y) (by omega) (by omega) hxC hyC hu9 hEx hEy, ?_⟩
                  rintro r h' ⟨rfl, rfl⟩
                  have c2 := csp_le hW x y
                  -- the rests of the one that follows
                  have kloop : ∀ n' k, n' + k = (plW T X beam (i + 1) t).length → ∀ z4 acc', W1 z2 z4 (400 * i + j) → WM z4 (400 * i + j) acc' (Dj T i) → WO (321000 * (T 8 2 - i)) acc' → (∀ b ∈ acc', b.2 < 4 * t + k) → rstF (cst T x + csp T x y) t k ((plW T X beam (i + 1) t).drop k) acc' = rstF (cst T x + csp T x y) t 0 (plW T X beam (i + 1) t) acc → J 84 0 0 [some (.ref 117), some (.int (nI beam)), some (.int (zb (anf (lf T X beam) (T 8 2 - (i + 1)) (i + 1)))), some (.int (nI i)), some (.int (nI (400 * i + j))), some (.int (nI (400 * (i + 1)))), some (.int (nI (400 * (i + 1) + t))), some (.int (nI (cst T x + csp T x y))), some (.int (nI k))] [] (st_h z4) := by
                    intro n'
                    induction n' with
                    | zero =>
                      intro k hk z4 acc' g1 g2 g3 g4 g5
                      obtain ⟨u1, u2, u3⟩ := fr z4 g1
                      have hkn : k = (plW T X beam (i + 1) t).length := by omega
                      have ew : z4.2.1 121 (nI (400 * (i + 1) + t)).toNatClampNeg = nI (plW T X beam (i + 1) t).length := by rw [ct]; exact ((u2 (i + 1) (Nat.le_refl _) hi1).1 t (by omega)).1
                      rw [List.drop_eq_nil_of_le (by omega), rstF_nil] at g5
                      refine ri_go hJ [107] 90 84 rfl ?_
                      refine ⟨vt, fun _ => k107 z4 acc' g1 g2 g3 (fun b hb' => by have := g4 b hb'; have := hWtO.1; omega) (by rw [g5]; exact hfin) _ _, fun q => absurd (show z4.2.1 121 (nI (400 * (i + 1) + t)).toNatClampNeg ≤ nI k from ?_) q⟩
                      rw [ew]; exact nI_le (by omega) (by have := hWtO.1; omega)
                    | succ n' ihk =>
                      intro k hk z4 acc' g1 g2 g3 g4 g5
                      obtain ⟨u1, u2, u3⟩ := fr z4 g1
                      have hl4 := hWtO.1
                      have hWt4 := (u2 (i + 1) (Nat.le_refl _) hi1).1 t (by omega)
                      have ew : z4.2.1 121 (nI (400 * (i + 1) + t)).toNatClampNeg = nI (plW T X beam (i + 1) t).length := by rw [ct]; exact hWt4.1
                      obtain ⟨a, ha⟩ : ∃ a, (plW T X beam (i + 1) t)[k]? = some a := ⟨_, List.getElem?_eq_getElem (by omega)⟩
                      have haB := (hWtO.2.2 k a ha).1
                      have ek := nI_1 k
                      have ei : 4 * nI (400 * (i + 1) + t) + nI k = nI (4 * (400 * (i + 1) + t) + k) := ix4d
                      have es : z4.2.1 118 (4 * nI (400 * (i + 1) + t) + nI k).toNatClampNeg = nI a.1 := by rw [ei, cl31 (by omega)]; exact (hWt4.2 k a ha).1
                      have esum : nI (cst T x + csp T x y) + z4.2.1 118 (4 * nI (400 * (i + 1) + t) + nI k).toNatClampNeg = nI (cst T x + csp T x y + a.1) := by rw [es, nI_add]
                      rw [drop_consW ha, rstF_cons] at g5
                      have ea := e10_addWay l z4 (s := 400 * i + j) (D := Dj T i) (L := acc') (a := (cst T x + csp T x y + a.1, 4 * t + k)) (by omega) hD g3.1 g3.2.1 (WO_BD g3 (by omega)) (by show cst T x + csp T x y + a.1 < 2 ^ 30; omega) (by show 4 * t + k < 2 ^ 20; omega) g4 g2
                      have e1' : Dj T i + (4 * t + k) / 4 = 400 * (i + 1) + t := by rw [hDi]; omega
                      have e2' : (4 * t + k) % 4 = k := by omega
                      rw [show nI (Dj T i + (cst T x + csp T x y + a.1, 4 * t + k).2 / 4) = nI (400 * (i + 1) + t) from congrArg nI e1', show nI ((cst T x + csp T x y + a.1, 4 * t + k).2 % 4) = nI k from congrArg nI e2', show nI (cst T x + csp T x y + a.1, 4 * t + k).1 = nI (cst T x + csp T x y) + z4.2.1 118 (4 * nI (400 * (i + 1) + t) + nI k).toNatClampNeg from esum.symm] at ea
                      refine ri_go hJ [84] 90 84 rfl ?_
                      refine ⟨vt, fun q => absurd (show z4.2.1 121 (nI (400 * (i + 1) + t)).toNatClampNeg ≤ nI k from q) (by rw [ew]; exact nI_ge (by omega) (by omega)), fun _ => ⟨by show vp_in (4 * nI (400 * (i + 1) + t) + nI k) 25600; rw [ei]; exact vp_in_nI (by omega) (by decide), _, ea, ?_⟩⟩
                      rintro r h' ⟨rfl, z5, rfl, v1, v2⟩
                      have := ihk (k + 1) (by omega) z5 _ (W1_tr g1 v2) v1 ?_ ?_ g5
                      · rw [← ek] at this
                        exact this
                      · refine rstF_ok (c := cst T x + csp T x y) (t := t) [a] k acc' (fun b hb' => ?_) (by simp; omega) g3.1 g3.2.1 g3.2.2
                        have hba : b = a := by simpa using hb'
                        rw [hba]; omega
                      · intro b hb'
                        rcases insk_mem hb' with rfl | hb'
                        · show 4 * t + k < 4 * t + (k + 1); omega
                        · have := g4 b hb'; omega
                  have k81 : J 81 0 0 [some (.ref 117), some (.int (nI beam)), some (.int (zb (anf (lf T X beam) (T 8 2 - (i + 1)) (i + 1)))), some (.int (nI i)), some (.int (nI (400 * i + j))), some (.int (nI (400 * (i + 1)))), some (.int (nI (400 * (i + 1) + t))), o7, o8] [.int (nI (cst T x + csp T x y))] (st_h z3) := by
                    refine ri_go hJ [84] 90 81 rfl ?_
                    exact kloop (plW T X beam (i + 1) t).length 0 (by omega) z3 acc hw hwm hwo (fun b hb' => by have := hlk b hb'; omega) rfl
                  rw [← nI_add (cst T x), ← ec] at k81
                  exact k81
          refine ri_go hJ [109, 52] 90 13 rfl ?_
          refine ⟨vi, fun q => absurd (show (400 : Int32) * nI i + z2.2.1 117 (nI i).toNatClampNeg ≤ nI (400 * i + j) from q) (by rw [eb]; exact nI_ge (by omega) (by omega)), fun _ => ⟨vj, fun q => ?_, fun q => ⟨vj, ?_⟩⟩⟩
          · have q : ¬ nI i = z2.1 101 7 - 1 := q
            rw [hM2.1.2.2, nI_sub1 hn.1, nn_eq (by omega) (by omega)] at q
            have hi1 : i + 1 < T 8 2 := by omega
            have e41 : 400 * (nI i + 1) = nI (400 * (i + 1)) := by rw [nI_1]; show nI 400 * nI (i + 1) = _; rw [pk_mul]
            have hfin : lnkF T x (cst T x) (X (i + 1)) (plW T X beam (i + 1)) ((List.range' 0 ((X (i + 1)).length - 0)).filter (alv beam (plW T X beam (i + 1)) (X (i + 1)).length)) [] = plW T X beam i j := by
              rw [hpl]
              unfold wv
              rw [if_neg (by omega), ← mkA_rng]; rfl
            have := tloop hi1 (X (i + 1)).length 0 (by omega) _ [] hw0 hwm0 (WO_nil _) (fun b hb' => by simp at hb') hfin o7 o8
            rw [Nat.add_zero (400 * (i + 1)), ← e41] at this
            exact this
          · have q : nI i = z2.1 101 7 - 1 := Decidable.not_not.mp q
            rw [hM2.1.2.2, nI_sub1 hn.1, nn_eq (by omega) (by omega)] at q
            have hi1 : i + 1 = T 8 2 := by omega
            have hDi : Dj T i = 0 := if_pos hi1
            have ec : z2.2.1 116 (nI (400 * i + j)).toNatClampNeg = nI (cst T x) := by rw [cj]; exact ((hA2 i (by omega)).2 j x hx (by omega)).2.2
            have ea := e10_addWay l (fa z2 121 (upd (z2.2.1 121) (nI (400 * i + j)).toNatClampNeg 0)) (s := 400 * i + j) (D := Dj T i) (L := []) (a := (cst T x, 0)) (by omega) hD (by simp) (WO_nil 0).2.1 (WO_BD (WO_nil 0) (by omega)) (by show cst T x < 2 ^ 30; omega) (by show (0 : Nat) < 2 ^ 20; omega) (fun b hb' => by simp at hb') hwm0
            rw [show nI (Dj T i + (cst T x, 0).2 / 4) = 0 by rw [hDi]; show nI (0 + 0 / 4) = 0; decide, show nI ((cst T x, 0).2 % 4) = 0 from rfl, show nI (cst T x, 0).1 = z2.2.1 116 (nI (400 * i + j)).toNatClampNeg from ec.symm] at ea
            refine ⟨_, ea, ?_⟩
            rintro r h' ⟨rfl, z5, rfl, v1, v2⟩
            refine k109 z5 (W1_tr hw0 v2) ?_ _ _ _ _
            rw [hpl]
            unfold wv
            rw [if_pos hi1]
            exact v1
      refine ri_go hJ [13] 90 7 rfl ?_
      refine ⟨fun q => absurd q (nI_pos (by omega)), fun _ => ?_⟩
      have := sloop (X i).length 0 (by omega) z1 (fun s hs => absurd hs (by omega)) (fun j h1 h2 => hG j h1 h2) hm o5 o6 o7 o8
      rw [Nat.add_zero (400 * i), ← e4] at this
      exact this
  refine ri_run_ok hJ [7] 90 0 0 0 _ _ _ ?_
  have := outer (T 8 2) (Nat.le_refl _) z (fun j h1 h2 => absurd h2 (by omega)) (mm_rf _ _ _) none none none none none
  rw [Nat.sub_self, show nI (T 8 2) + (-1) = z.1 101 7 - 1 by rw [hM.1.2.2]; apply Int32.toBitVec_inj.mp; simp [Int32.toBitVec_add, Int32.toBitVec_sub, BitVec.sub_eq_add_neg]] at this
  exact this
