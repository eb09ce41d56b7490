/-! RowSearch: forget, codeAt, run -/
theorem e8_forget (l : Launch) (z : st_T) : ri_Ev l y8_forget w8_forget r8_forget 0 0 [.ref 91] (st_h z) (ri_vo (st_h (fs (fs z 75 13 0) 75 14 0))) := by
  refine ri_ev (t8_forget l _) rfl rfl rfl (Nat.le_of_ble_eq_true rfl) rfl (z8_forget l _) (fun J hJ => ?_)
  refine ri_run_ok hJ [] 90 0 0 0 _ _ _ ?_
  exact ⟨rfl, rfl⟩
theorem e8_codeAt (l : Launch) (z : st_T) {k i : Nat} (hk : k < 4) (hi : i < 16) : ri_Ev l y8_codeAt w8_codeAt r8_codeAt 0 0 [.ref 91, .int (nI k), .int (nI i)] (st_h z) (ri_is (z.2.1 100 (16 * k + i)) (st_h z)) := by
  refine ri_ev (t8_codeAt l _) rfl rfl rfl (Nat.le_of_ble_eq_true rfl) rfl (z8_codeAt l _) (fun J hJ => ?_)
  refine ri_run_ok hJ [] 90 0 0 0 _ _ _ ?_
  have e : nI k * 16 + nI i = nI (16 * k + i) := ix16
  refine ⟨?_, ?_, rfl⟩
  · show vp_in (nI k * 16 + nI i) 64
    rw [e]; exact vp_in_nI (by omega) (by decide)
  · show some (Value.int (z.2.1 100 (nI k * 16 + nI i).toNatClampNeg)) = _
    rw [e, cl31 (by omega)]
def lf (T : tT) (St : Nat → List Nat) (beam i : Nat) : Bool := decide (0 < beam) && decide (beam < dcn (goW (plW T St beam i)) (St i).length)
def lefT (T : tT) (St : Nat → List Nat) (beam : Nat) : Bool := anf (lf T St beam) (T 8 2) 0
def rowL (T : tT) (St : Nat → List Nat) (beam : Nat) : wy := gth (plW T St beam 0) (plA T St beam 0) []
/-- the places that the search writes -/
def mdQ : List Nat := [18, 19, 20, 75, 78, 79, 80, 81, 82, 83, 84, 85, 86, 87, 88, 89, 90, 91, 92, 93, 94, 95, 96, 97, 98, 99, 100]
theorem mdQ_in : ∀ i, i < 16 → 78 + i ∈ mdQ := by decide
theorem mdQ_s (b : Bool) : sA b ∈ mdQ := by cases b <;> decide
theorem mdR_Q {b : Bool} {i : Nat} (hi : i < 16) : ∀ p ∈ mdR b i, p ∈ mdQ := by
  intro p hp
  rw [mdR_in] at hp
  rcases hp with rfl | rfl | rfl | rfl | rfl
  · decide
  · decide
  · decide
  · exact mdQ_s b
  · exact mdQ_in i hi
theorem mdQ_no {p : Nat} (h1 : 20 < p) (h2 : p < 75) : p ∉ mdQ := by
  intro h
  simp only [mdQ, List.mem_cons, List.not_mem_nil, or_false] at h
  omega
/-- but for which of the two arrays is which -/
def mq (ps : List Nat) (z z' : st_T) : Prop := ∀ p, p ∉ ps → z'.1 p = z.1 p ∧ z'.2.1 p = z.2.1 p
theorem mq_md {ps : List Nat} {z z' : st_T} (h : md ps z z') : mq ps z z' := h.1
theorem mq_tr {ps : List Nat} {z z' z'' : st_T} (h : mq ps z z') (h' : mq ps z' z'') : mq ps z z'' := fun p hp => ⟨(h' p hp).1.trans (h p hp).1, (h' p hp).2.trans (h p hp).2⟩
theorem mq_mo {ps qs : List Nat} {z z' : st_T} (h : md ps z z') (hs : ∀ p ∈ ps, p ∈ qs) : mq qs z z' := (md_mo h hs).1
theorem mq_of {ps : List Nat} {z z' : st_T} (h : mq ps z z') : md ps z (z'.1, z'.2.1, z.2.2) := ⟨h, rfl⟩
theorem RS_mq {ps : List Nat} {z z' : st_T} {T : tT} (h : RS z T) (hm : mq ps z z') (hd : ∀ p ∈ ps, 8 < p) : RS z' T := RS_md (z' := (z'.1, z'.2.1, z.2.2)) h (mq_of hm) hd
theorem RH_mq {ps : List Nat} {z z' : st_T} {T : tT} (h : RH z T) (hm : mq ps z z') (hd : ∀ p ∈ ps, p < 9 ∨ 13 < p) : RH z' T := RH_md (z' := (z'.1, z'.2.1, z.2.2)) h (mq_of hm) hd
theorem LY_mq {ps : List Nat} {z z' : st_T} {p : Nat} {L : List Nat} (h : LY z p L) (hm : mq ps z z') (h1 : p ∉ ps) (h2 : p + 1 ∉ ps) : LY z' p L := LY_md (z' := (z'.1, z'.2.1, z.2.2)) h (mq_of hm) h1 h2
theorem mdQ_S : ∀ p ∈ mdQ, 8 < p := by decide
theorem mdQ_H : ∀ p ∈ mdQ, p < 9 ∨ 13 < p := by decide
theorem lA_not (b : Bool) : lA (!b) = sA b := by cases b <;> rfl
theorem alv_go {beam n s : Nat} {W : Nat → wy} (h : alv beam W n s = true) : goW W s = true := by
  unfold alv at h
  by_cases q : beam = 0
  · rw [if_pos q] at h; exact h
  · rw [if_neg q] at h
    obtain ⟨a, ha, e⟩ := List.any_eq_true.mp h
    have := ((nrw_ok beam W n).2.2.1 a ha).2.1
    rw [← (by simpa using e : a.2 = s)]; exact this
theorem alv_inB {m n s : Nat} {W : Nat → wy} : alv (m + 1) W n s = true ↔ inB (nrw (m + 1) W n) s := by
  unfold alv inB
  rw [if_neg (by omega), List.any_eq_true]
  exact ⟨fun ⟨a, ha, e⟩ => ⟨a, ha, by simpa using e⟩, fun ⟨a, ha, e⟩ => ⟨a, ha, by simpa using e⟩⟩
theorem RW_RL {z : st_T} {i : Nat} {A : List Nat} {W : Nat → wy} {b : Bool} (h : ∀ t, t ∈ A → RW (z.2.1 (sA b)) (z.2.1 (78 + i)) (4 * t) (W t)) : RL z i A W := fun t ht j a ha hj => ((h t ht).1 j a ha hj).2
/-- what holds when the places from i on are done -/
def QI (z z1 : st_T) (T : tT) (St : Nat → List Nat) (beam i : Nat) : Prop := (i < T 8 2 → AL z1 (plA T St beam i) ∧ ∀ t, t ∈ plA T St beam i → RW (z1.2.1 (sA z1.2.2)) (z1.2.1 (78 + i)) (4 * t) (plW T St beam i t)) ∧ (∀ j, i ≤ j → j < T 8 2 → RL z1 j (plA T St beam j) (plW T St beam j) ∧ ∀ s, s < (St j).length → WO (321000 * (T 8 2 - j)) (plW T St beam j s)) ∧ z1.1 75 13 = 0 ∧ z1.1 75 14 = zb (anf (lf T St beam) (T 8 2 - i) i) ∧ mq mdQ z z1
theorem zb_if {c : Prop} [Decidable c] {b : Bool} : (if c then (1 : Int32) else zb b) = zb (decide c || b) := by
  by_cases h : c
  · rw [if_pos h, decide_eq_true h]; rfl
  · rw [if_neg h, decide_eq_false h]; rfl
set_option maxHeartbeats 4000000 in
theorem e8_run (l : Launch) (z : st_T) (T : tT) (hW : TW T) (hS : RS z T) (hR : RH z T) {St : Nat → List Nat} {beam : Nat} (hb : beam ≤ 100) (hY : ∀ i, i < T 8 2 → LY z (23 + 3 * i) (St i) ∧ (St i).length ≤ 400) (hC : ∀ i, i < T 8 2 → ∀ t y : Nat, (St i)[t]? = some y → CK y) : ri_Ev l y8_run w8_run r8_run 0 0 [.ref 91, .int (nI beam)] (st_h z) (ri_zx fun z' => z'.1 75 13 = nI (rowL T St beam).length ∧ z'.1 75 14 = zb (lefT T St beam) ∧ (∀ (k : Nat) (a : Nat × Nat), (rowL T St beam)[k]? = some a → z'.2.1 99 k = nI a.1 ∧ ∀ i, i < T 8 2 → z'.2.1 100 (16 * k + i) = nI (rcd St (plW T St beam) a.2 i)) ∧ (rowL T St beam).length ≤ 4 ∧ mq mdQ z z') := by
  refine ri_ev (t8_run l _) rfl rfl rfl (Nat.le_of_ble_eq_true rfl) rfl (z8_run l _) (fun J hJ => ?_)
  have hn := hW.1
  have hYq : ∀ z1, mq mdQ z z1 → ∀ i, i < T 8 2 → LY z1 (23 + 3 * i) (St i) := fun z1 hm i hi => LY_mq (hY i hi).1 hm (mdQ_no (by omega) (by omega)) (mdQ_no (by omega) (by omega))
  have outer : ∀ i, i ≤ T 8 2 → ∀ z1, QI z z1 T St beam i → ∀ o3, J 8 0 0 [some (.ref 91), some (.int (nI beam)), some (.int (nI i + (-1))), o3] [] (st_h z1) := by
    intro i
    induction i with
    | zero =>
      intro _ z1 hI o3
      obtain ⟨q1, q2, q3, q4, q5⟩ := hI
      obtain ⟨a1, a2⟩ := q1 (by omega)
      have hWO : ∀ t, t ∈ plA T St beam 0 → WO (321000 * (T 8 2 - 0)) (plW T St beam 0 t) := fun t ht => (q2 0 (Nat.le_refl _) (by omega)).2 t (plA_mem ht).1
      refine ri_go hJ [] 90 8 rfl ?_
      refine ⟨fun _ => ?_, fun c => absurd (by decide) c⟩
      refine ⟨_, e8_gatherRows l z1 (A := plA T St beam 0) (W := plW T St beam 0) (B := 321000 * (T 8 2 - 0)) (by omega) a1 (by have := filt_len (alv beam (plW T St beam 0) (St 0).length) (St 0).length; have := (hY 0 (by omega)).2; unfold plA mkA; omega) (fun t ht => ⟨by have := (plA_mem ht).1; have := (hY 0 (by omega)).2; omega, hWO t ht, a2 t ht⟩), ?_⟩
      rintro r h' ⟨rfl, z2, rfl, g1, g2, g3⟩
      have hm2 : mq mdQ z z2 := mq_tr q5 (mq_mo g3 (by decide))
      have et := e8_traceRows l z2 T hW (RS_mq hS hm2 mdQ_S) (St := St) (A := plA T St beam) (W := plW T St beam) (R := gth (plW T St beam 0) (plA T St beam 0) []) (B := 321000 * (T 8 2 - 0)) (fun i hi => ⟨hYq z2 hm2 i hi, (hY i hi).2⟩) (fun i hi t ht => ⟨(plA_mem ht).1, ((q2 i (Nat.zero_le _) hi).2 t (plA_mem ht).1).1⟩) (fun i hi k hk => ?_) (fun i hi t ht j a ha hj => ?_) g2.1 g2.2.2 (gth_VL (fun t ht => (hWO t ht).1) _ _ (fun t ht => ht) (fun a ha => by simp at ha)) g1 ?_
      · refine ⟨_, et, ?_⟩
        rintro r h' ⟨rfl, z3, rfl, t1, t2, t3, t4⟩
        refine ⟨rfl, z3, rfl, t1, ?_, fun k a ha => ⟨?_, t3 k a ha⟩, g2.1, mq_tr hm2 (mq_mo t4 (by decide))⟩
        · rw [t2, (g3.1 75 (by decide)).1, q4]; rfl
        · have hk4 : k < 4 := Nat.lt_of_lt_of_le (List.getElem?_eq_some_iff.mp ha).1 g2.1
          have := (g1.1 k a ha hk4).1
          rw [Nat.zero_add] at this
          rw [md_F t4 (by decide)]; exact this
      · -- a link leads on
        obtain ⟨v1, v2⟩ := hk
        obtain ⟨b, hb2⟩ : ∃ b, (plW T St beam i (k / 4))[k % 4]? = some b := ⟨_, List.getElem?_eq_getElem v2⟩
        have en : nxt (plW T St beam i) k = b.2 := by
          unfold nxt
          rw [List.getD_eq_getElem?_getD, hb2]; rfl
        rw [en]
        obtain ⟨x, hx⟩ : ∃ x, (St i)[k / 4]? = some x := ⟨_, List.getElem?_eq_getElem (plA_mem v1).1⟩
        rw [plW_at (by omega) hx] at hb2
        unfold wv at hb2
        rw [if_neg (by omega)] at hb2
        exact lnkF_VL (fun t ht => ((q2 (i + 1) (Nat.zero_le _) hi).2 t (plA_mem ht).1).1) _ _ (fun t ht => ht) (fun a ha => by simp at ha) b (List.mem_of_getElem? hb2)
      · rw [md_F g3 (by simp; omega)]
        exact (q2 i (Nat.zero_le _) hi).1 t ht j a ha hj
      · rw [(g3.1 75 (by decide)).1]; exact q3
    | succ i ih =>
      intro hi z1 hI o3
      obtain ⟨q1, q2, q3, q4, q5⟩ := hI
      rw [pk_m1]
      have hi16 : i < 16 := by omega
      have hX4 := (hY i (by omega)).2
      have hm2 : mq mdQ z (z1.1, z1.2.1, !z1.2.2) := q5
      have hN : NX (z1.1, z1.2.1, !z1.2.2) T i (321000 * (T 8 2 - (i + 1))) (St (i + 1)) (plW T St beam (i + 1)) (plA T St beam (i + 1)) := by
        intro hl
        obtain ⟨a1, a2⟩ := q1 hl
        refine ⟨hYq _ hm2 _ hl, (hY _ hl).2, hC _ hl, a1, ?_, fun t ht => (plA_mem ht).1, fun t ht => ?_⟩
        · have := filt_len (alv beam (plW T St beam (i + 1)) (St (i + 1)).length) (St (i + 1)).length
          have := (hY _ hl).2
          unfold plA mkA; omega
        · have hO := (q2 (i + 1) (Nat.le_refl _) hl).2 t (plA_mem ht).1
          refine ⟨hO.1, hO.2.1, hO.2.2, ?_⟩
          show RW (z1.2.1 (lA (!z1.2.2))) _ _ _
          rw [lA_not]
          exact a2 t ht
      -- behind listAlive
      have k32 : ∀ z5, QI z z5 T St beam i → ∀ o3, J 32 0 0 [some (.ref 91), some (.int (nI beam)), some (.int (nI i)), o3] [] (st_h z5) := by
        intro z5 h5 o3
        refine ri_go hJ [8] 90 32 rfl ?_
        exact ih (by omega) z5 h5 o3
      have k29 : ∀ z4 : st_T, (∀ s, s < (St i).length → WO (321000 * (T 8 2 - i)) (plW T St beam i s)) → (∀ s, s < (St i).length → (alv beam (plW T St beam i) (St i).length s = true → RW (z4.2.1 (sA z4.2.2)) (z4.2.1 (78 + i)) (4 * s) (plW T St beam i s)) ∧ (¬ alv beam (plW T St beam i) (St i).length s = true → z4.2.1 (78 + i) (4 * s) = -1)) → (∀ j, i + 1 ≤ j → j < T 8 2 → z4.2.1 (78 + j) = z1.2.1 (78 + j)) → z4.1 75 13 = 0 → z4.1 75 14 = zb (lf T St beam i || anf (lf T St beam) (T 8 2 - (i + 1)) (i + 1)) → mq mdQ z z4 → ∀ o3, J 29 0 0 [some (.ref 91), some (.int (nI beam)), some (.int (nI i)), o3] [] (st_h z4) := by
        intro z4 hO hRW hj h13 h14 hm4 o3
        refine ri_go hJ [32] 90 29 rfl ?_
        refine ⟨_, e8_listAlive l z4 (X := St i) (P := alv beam (plW T St beam i) (St i).length) hi16 (hYq z4 hm4 i (by omega)) hX4 (fun s hs => ⟨fun h c => ?_, fun h => Classical.byContradiction (fun q => h ((hRW s hs).2 q))⟩), ?_⟩
        · have hnil := (RW_go ((hRW s hs).1 h) (hO s hs).2.2).mp c
          have hg := alv_go h
          unfold goW at hg
          rw [hnil] at hg; cases hg
        · rintro r h' ⟨rfl, z5, rfl, p1, ⟨p2, p3⟩, p4⟩
          have hin : ∀ t, t ∈ plA T St beam i → RW (z5.2.1 (sA z5.2.2)) (z5.2.1 (78 + i)) (4 * t) (plW T St beam i t) := by
            intro t ht
            have hsv := sA_v z4.2.2
            rw [p4.2, md_F p4 (p := sA z4.2.2) (by simp; omega), md_F p4 (p := 78 + i) (by simp; omega)]
            exact (hRW t (plA_mem ht).1).1 (plA_mem ht).2
          refine k32 z5 ⟨fun _ => ⟨p1, hin⟩, fun j h1 h2 => ?_, by rw [p2]; exact h13, ?_, mq_tr hm4 (mq_mo p4 (by decide))⟩ _
          · by_cases e : j = i
            · subst e
              exact ⟨RW_RL hin, hO⟩
            · refine ⟨fun t ht k a ha hk => ?_, (q2 j (by omega) h2).2⟩
              rw [md_F p4 (by simp; omega), hj j (by omega) h2]
              exact (q2 j (by omega) h2).1 t ht k a ha hk
          · rw [p3, h14, show T 8 2 - i = (T 8 2 - (i + 1)) + 1 by omega]; rfl
      have k20 : ∀ o3, J 20 0 0 [some (.ref 91), some (.int (nI beam)), some (.int (nI i)), o3] [] (st_h (z1.1, z1.2.1, !z1.2.2)) := by
        intro o3
        refine ri_go hJ [29] 90 20 rfl ?_
        refine ⟨_, e8_findRests l (z1.1, z1.2.1, !z1.2.2) T hW (RS_mq hS hm2 mdQ_S) (RH_mq hR hm2 mdQ_H) (i := i) (X := St i) (B := 321000 * (T 8 2 - (i + 1))) (by omega) (hYq _ hm2 i (by omega)) hX4 (hC i (by omega)) hN (by omega), ?_⟩
        rintro r h' ⟨rfl, z3, rfl, hF, hm3⟩
        have eb3 : z3.2.2 = !z1.2.2 := hm3.2
        have hF2 : ∀ s, s < (St i).length → RW (z3.2.1 (sA z3.2.2)) (z3.2.1 (78 + i)) (4 * s) (plW T St beam i s) ∧ WO (321000 * (T 8 2 - i)) (plW T St beam i s) := by
          intro s hs
          obtain ⟨x, hx⟩ : ∃ x, (St i)[s]? = some x := ⟨_, List.getElem?_eq_getElem hs⟩
          rw [plW_at (by omega) hx, eb3]
          have := hF s x hx
          rw [show 321000 * (T 8 2 - i) = 321000 + 321000 * (T 8 2 - (i + 1)) by omega]
          exact this
        have hm4 : mq mdQ z z3 := mq_tr hm2 (mq_mo hm3 (mdR_Q hi16))
        have f3 : z3.1 75 = z1.1 75 := (hm3.1 75 (mdR_no (by decide) (by decide))).1
        have hj3 : ∀ j, i + 1 ≤ j → j < T 8 2 → z3.2.1 (78 + j) = z1.2.1 (78 + j) := fun j h1 h2 => (md_F hm3 (p := 78 + j) (fun q => by
          rw [mdR_in] at q
          have := sA_v (z1.1, z1.2.1, !z1.2.2).2.2
          omega))
        refine ⟨fun c => ?_, fun c => ?_⟩
        · have c : nI beam ≤ nI 0 := c
          rw [nn_le (by omega) (by decide)] at c
          have hb0 : beam = 0 := by omega
          refine k29 z3 (fun s hs => (hF2 s hs).2) (fun s hs => ⟨fun _ => (hF2 s hs).1, fun q => ?_⟩) hj3 (by rw [f3]; exact q3) ?_ hm4 _
          · refine (RW_go (hF2 s hs).1 (hF2 s hs).2.2.2).mpr (goW_f ?_)
            unfold alv at q
            rw [if_pos hb0] at q
            exact Bool.eq_false_iff.mpr q
          · rw [f3, q4]
            unfold lf
            rw [hb0]; rfl
        · have c : ¬ nI beam ≤ nI 0 := c
          rw [nn_le (by omega) (by decide)] at c
          obtain ⟨m, rfl⟩ : ∃ m, beam = m + 1 := ⟨beam - 1, by omega⟩
          refine ⟨_, e8_narrow l z3 (i := i) (m := m) (B := 321000 * (T 8 2 - i)) (X := St i) (W := plW T St (m + 1) i) hi16 (by omega) (hYq _ hm4 i (by omega)) hX4 (by omega) (fun s hs => ⟨(hF2 s hs).1, (hF2 s hs).2.2.2⟩), ?_⟩
          rintro r h' ⟨rfl, z4, rfl, n1, ⟨n2, n3, n4⟩, n5⟩
          refine k29 z4 (fun s hs => (hF2 s hs).2) (fun s hs => ⟨fun q => ?_, fun q => (n1 s hs).2 (fun q2 => q (alv_inB.mpr q2))⟩) (fun j h1 h2 => by rw [md_F n5 (by simp; omega)]; exact hj3 j h1 h2) (by rw [n3, f3]; exact q3) ?_ (mq_tr hm4 (mq_mo n5 (fun p hp => by
            simp only [List.mem_cons, List.not_mem_nil, or_false] at hp
            rcases hp with rfl | rfl | rfl
            · decide
            · decide
            · exact mdQ_in i hi16))) _
          · rw [n5.2]
            exact (n1 s hs).1 (alv_inB.mp q)
          · rw [n4, f3, q4, zb_if]
            unfold lf
            rw [decide_eq_true (show 0 < m + 1 by omega), Bool.true_and]
      have hsw : ∀ (zz : st_T), zz = z1 → (∀ o3, J 20 0 0 [some (.ref 91), some (.int (nI beam)), some (.int (nI i)), o3] [] (st_h (zz.1, zz.2.1, !zz.2.2))) → J 8 0 0 [some (.ref 91), some (.int (nI beam)), some (.int (nI i)), o3] [] (st_h zz) := by
        rintro ⟨S, F, b⟩ _ hk
        refine ri_go hJ [20] 90 8 rfl ?_
        refine ⟨fun c => absurd c (nI_pos (by omega)), fun _ => ?_⟩
        cases b
        · exact hk _
        · exact hk _
      exact hsw z1 rfl k20
  refine ri_run_ok hJ [8] 90 0 0 0 _ _ _ ?_
  refine ⟨_, e8_forget l z, ?_⟩
  rintro r h' ⟨rfl, rfl⟩
  have hm0 : md [75] z (fs (fs z 75 13 0) 75 14 0) := md_tr (md_fs (by simp)) (md_fs (by simp))
  have := outer (T 8 2) (Nat.le_refl _) (fs (fs z 75 13 0) 75 14 0) ⟨fun h => absurd h (by omega), fun j h1 h2 => absurd h2 (by omega), ?_, ?_, mq_mo hm0 (by decide)⟩ none
  · rw [show nI (T 8 2) + (-1) = z.1 1 0 - 1 by rw [hS.2.2.2.2.1]; apply Int32.toBitVec_inj.mp; simp [Int32.toBitVec_add, Int32.toBitVec_sub, BitVec.sub_eq_add_neg]] at this
    exact this
  · rw [fs_ff _ (by decide), fs_self]
  · rw [fs_self, Nat.sub_self]; rfl
