/-! THE FACE: passing, count, member -/
theorem min_i {a b : Nat} (ha : a < 2 ^ 31) (hb : b < 2 ^ 31) : (if nI b < nI a then nI b else nI a) = nI (min a b) := by
  by_cases q : b < a
  · rw [if_pos (by rw [nn_lt hb ha]; exact q), Nat.min_eq_right (by omega)]
  · rw [if_neg (by rw [nn_lt hb ha]; exact q), Nat.min_eq_left (by omega)]
set_option maxHeartbeats 1000000 in
theorem e9_passing (l : Launch) (z : st_T) (T : tT) (Q : tQ) (hI : CI z T Q) (i v : Int32) : ri_Ev l y9_passing w9_passing r9_passing 0 0 [.ref 16, .int i, .int v] (st_h z) (CO z (sp_passing T Q i v)) := by
  obtain ⟨hW, hQ, hS, hR, hF, hO⟩ := id hI
  refine ri_ev (t9_passing l _) rfl rfl rfl (Nat.le_of_ble_eq_true rfl) rfl (z9_passing l _) (fun J hJ => ?_)
  have bad : (okR Q 0 && (bt 0 i (nI (T 8 2) - 2) && bt 0 v 3)) = false → CO z (sp_passing T Q i v) (some (.int (-1))) (st_h z) := fun h => CO_same hI (by unfold sp_passing; rw [h]; rfl)
  have hn := hW.1
  have e2 : (nI (T 8 2) - 2).toInt = (T 8 2 : Int) - 2 := by
    have : ∀ n, n < 17 → (nI n - 2).toInt = (n : Int) - 2 := by decide
    exact this _ (by omega)
  have e3 : (nI (T 8 2) - 1).toInt = (T 8 2 : Int) - 1 := by
    have : ∀ n, n < 17 → (nI n - 1).toInt = (n : Int) - 1 := by decide
    exact this _ (by omega)
  refine ri_run_ok hJ [36] 90 0 0 0 _ _ _ ?_
  refine ⟨_, e9_isRow l z T Q hQ hO 0, ?_⟩
  rintro r h' ⟨rfl, rfl⟩
  refine ⟨fun c => bad (by rw [zb_0.mp c]; rfl), fun c1 => ⟨fun c => bad (by rw [bt_lo (x := i) c, Bool.false_and, Bool.and_false]), fun c2 => ⟨fun c => bad ?_, fun c3 => ?_⟩⟩⟩
  · have c : z.1 1 0 - 1 ≤ i := c
    rw [hS.2.2.2.2.1] at c
    rw [bt_hi (x := i) (b := nI (T 8 2) - 2) ((gts (by omega)).mp c), Bool.false_and, Bool.and_false]
  · have c3 : ¬ z.1 1 0 - 1 ≤ i := c3
    rw [hS.2.2.2.2.1] at c3
    have b1 := zb_1.mp c1
    have b2 : bt 0 i (nI (T 8 2) - 2) = true := bt_in c2 (fun q => c3 ((gts (by omega)).mpr q))
    refine ⟨_, e9_isVoice l _ v, ?_⟩
    rintro r h' ⟨rfl, rfl⟩
    refine ⟨fun c4 => ?_, fun c => bad (by rw [zb_0.mp (Decidable.not_not.mp c), Bool.and_false, Bool.and_false])⟩
    have b3 := zb_1.mp c4
    obtain ⟨k1, -⟩ := okR_le hQ b1
    have k1 : 0 < Q.1.length := k1
    obtain ⟨v1, v2⟩ := nt_le (m := 3) (by decide) b3
    obtain ⟨i0, i2⟩ := nt_of c2
    have i1 : nt i + 1 < T 8 2 := by
      have := (bt_iff.mp b2).2
      rw [← i2, nI_toInt i0, e2] at this
      omega
    have h4 := hQ.1
    have q0 := Q_at (Q := Q) k1
    have hc0 := hQ.2.2 _ _ q0 (nt i) (by omega)
    have hc1 := hQ.2.2 _ _ q0 (nt i + 1) i1
    have d0 : z.2.1 100 (16 * 0 + nt i) = nI (rwq Q 0 (nt i)) := (hO.2.2 _ _ q0).2 _ (by omega)
    have d1 : z.2.1 100 (16 * 0 + (nt i + 1)) = nI (rwq Q 0 (nt i + 1)) := (hO.2.2 _ _ q0).2 _ i1
    have g0 := e8_codeAt l z (k := 0) (i := nt i) (by omega) (by omega)
    rw [i2] at g0
    have g1 := e8_codeAt l z (k := 0) (i := nt i + 1) (by omega) (by omega)
    rw [← nI_1 (nt i), i2] at g1
    have p0 := e11_pitchN l (x := rwq Q 0 (nt i)) (v := nt v) hc0.1 (by omega) (st_h z)
    rw [← d0, v2] at p0
    have p1 := e11_pitchN l (x := rwq Q 0 (nt i + 1)) (v := nt v) hc1.1 (by omega) (st_h z)
    rw [← d1, v2] at p1
    have ha := pit_lt (rwq Q 0 (nt i)) (nt v)
    have hb := pit_lt (rwq Q 0 (nt i + 1)) (nt v)
    have es : sp_passing T Q i v = (psA T (pit (rwq Q 0 (nt i)) (nt v)) (pit (rwq Q 0 (nt i + 1)) (nt v)), T, Q) := by
      unfold sp_passing
      rw [b1, b2, b3]; rfl
    generalize pit (rwq Q 0 (nt i)) (nt v) = a at p0 ha es
    generalize pit (rwq Q 0 (nt i + 1)) (nt v) = b at p1 hb es
    refine ⟨_, g0, ?_⟩
    rintro r h' ⟨rfl, rfl⟩
    refine ⟨_, p0, ?_⟩
    rintro r h' ⟨rfl, rfl⟩
    refine ⟨_, g1, ?_⟩
    rintro r h' ⟨rfl, rfl⟩
    refine ⟨_, p1, ?_⟩
    rintro r h' ⟨rfl, rfl⟩
    have ed := dst_abs (a := b) (b := a) (by omega) (by omega)
    have em := min_i (a := a) (b := b) (by omega) (by omega)
    have hd : dst b a < 2 ^ 31 := by unfold dst; split <;> omega
    have hm : 12 ≤ min a b ∧ min a b < 100 := by omega
    have s1 := e1_inScale l z T hW hR (p := min a b + 1) (by omega) (by omega)
    have em1 : (if nI b < nI a then nI b else nI a) + 1 = nI (min a b + 1) := by rw [em, nI_1]
    have em2 : (if nI b < nI a then nI b else nI a) + 2 = nI (min a b + 2) := by rw [em]; exact nI_add (min a b) 2
    rw [← em1] at s1
    have s2 := e1_inScale l z T hW hR (p := min a b + 2) (by omega) (by omega)
    rw [← em2] at s2
    have fin : (dst b a = 3 ∨ dst b a = 4) → ∃ Po : ri_O, ri_Ev l y1_inScale w1_inScale r1_inScale 0 0 [.ref 25, .int ((if nI b < nI a then nI b else nI a) + 1)] (st_h z) Po ∧ ∀ (r : Option Value) (h' : List ri_C), Po r h' → r = some (.int (zb (inS T (min a b + 1)))) ∧ h' = st_h z := fun _ => ⟨_, s1, fun r h' h => h⟩
    have good : (dst b a = 3 ∨ dst b a = 4) → psA T a b = if inS T (min a b + 1) = true then nI (min a b + 1) else if inS T (min a b + 2) = true then nI (min a b + 2) else -2 := fun h => by unfold psA; rw [if_pos h]
    have none' : ¬ (dst b a = 3 ∨ dst b a = 4) → psA T a b = -2 := fun h => by unfold psA; rw [if_neg h]
    have k50 : (dst b a = 3 ∨ dst b a = 4) → ∀ o, J 49 0 0 [some (.ref 16), some (.int i), some (.int v), some (.int (nI a)), some (.int (nI b)), o, none] [] (st_h z) := by
      intro h o
      refine ri_go hJ [] 90 49 rfl ?_
      refine ⟨_, s1, ?_⟩
      rintro r h' ⟨rfl, rfl⟩
      refine ⟨fun c => ⟨_, s2, ?_⟩, fun c => ?_⟩
      · rintro r h' ⟨rfl, rfl⟩
        have c := zb_0.mp c
        refine ⟨fun c5 => CO_same hI ?_, fun c5 => CO_same (v := (if nI b < nI a then nI b else nI a) + 2) hI ?_⟩
        · rw [es, good h, if_neg (by rw [c]; decide), if_neg (by rw [zb_0.mp c5]; decide)]
        · rw [es, good h, if_neg (by rw [c]; decide), if_pos (zb_1.mp c5), em2]
      · refine CO_same (v := (if nI b < nI a then nI b else nI a) + 1) hI ?_
        rw [es, good h, if_pos (zb_1.mp c), em1]
    show J 36 0 0 [some (.ref 16), some (.int i), some (.int v), some (.int (nI a)), some (.int (nI b)), none, none] [] (st_h z)
    refine ri_go hJ [49] 90 36 rfl ?_
    refine ⟨fun c => k50 (Or.inl ?_) _, fun c5 => ⟨fun c => k50 (Or.inr ?_) _, fun c6 => CO_same hI ?_⟩⟩
    · have c : (if (0 : Int32) ≤ nI b - nI a then nI b - nI a else 0 - (nI b - nI a)) = nI 3 := c
      rw [ed, nn_eq hd (by decide)] at c
      exact c
    · have c : (if (0 : Int32) ≤ nI b - nI a then nI b - nI a else 0 - (nI b - nI a)) = nI 4 := c
      rw [ed, nn_eq hd (by decide)] at c
      exact c
    · have c5 : ¬ (if (0 : Int32) ≤ nI b - nI a then nI b - nI a else 0 - (nI b - nI a)) = nI 3 := c5
      have c6 : ¬ (if (0 : Int32) ≤ nI b - nI a then nI b - nI a else 0 - (nI b - nI a)) = nI 4 := c6
      rw [ed, nn_eq hd (by decide)] at c5 c6
      rw [es, none' (fun q => q.elim c5 c6)]
theorem bc_all : ∀ a, a < 128 → ∀ b, b < 64 → bcI (nI (64 * a + b)) = nI (dcn (fun i => (64 * a + b).testBit i) 13) := by decide +kernel
theorem bc_msk (P : Nat → Bool) : bcI (nI (msk P 13)) = nI (dcn P 13) := by
  have h := msk_lt P 13
  have e := bc_all (msk P 13 / 64) (by omega) (msk P 13 % 64) (by omega)
  rw [show 64 * (msk P 13 / 64) + msk P 13 % 64 = msk P 13 by omega] at e
  rw [e]
  refine congrArg nI (dcn_cong (fun i hi => ?_))
  rw [msk_bit, decide_eq_true hi]; rfl
theorem e9_count (l : Launch) (z : st_T) (T : tT) (Q : tQ) (hI : CI z T Q) (w : Int32) : ri_Ev l y9_count w9_count r9_count 0 0 [.ref 16, .int w] (st_h z) (CO z (sp_count T Q w)) := by
  obtain ⟨hW, hQ, hS, hR, hF, hO⟩ := id hI
  refine ri_ev (t9_count l _) rfl rfl rfl (Nat.le_of_ble_eq_true rfl) rfl (z9_count l _) (fun J hJ => ?_)
  refine ri_run_ok hJ [] 90 0 0 0 _ _ _ ?_
  refine ⟨fun c => CO_same (v := z.1 9 0) hI ?_, fun c0 => ⟨fun c => CO_same (v := z.1 9 1) hI ?_, fun c1 => ⟨fun c => CO_same (v := z.1 1 0) hI ?_, fun c2 => ⟨fun c => ⟨_, e0_givenNotes l z T hW hS, ?_⟩, fun c3 => ⟨fun c => CO_same (v := z.1 75 13) hI ?_, fun c4 => ⟨fun c => ⟨_, e13_bitCount l _ (z.1 1 1), ?_⟩, fun c5 => CO_same hI ?_⟩⟩⟩⟩⟩⟩
  · unfold sp_count
    rw [if_pos c, hR.1]
  · unfold sp_count
    rw [if_neg c0, if_pos c, hR.2.1]
  · unfold sp_count
    rw [if_neg c0, if_neg c1, if_pos c, hS.2.2.2.2.1]
  · rintro r h' ⟨rfl, rfl⟩
    refine CO_same hI ?_
    unfold sp_count
    rw [if_neg c0, if_neg c1, if_neg c2, if_pos c]
  · unfold sp_count
    rw [if_neg c0, if_neg c1, if_neg c2, if_neg c3, if_pos c, hO.1]
  · rintro r h' ⟨rfl, rfl⟩
    refine CO_same hI ?_
    unfold sp_count
    rw [if_neg c0, if_neg c1, if_neg c2, if_neg c3, if_neg c4, if_pos c, hS.2.2.2.2.2, bc_msk]
  · unfold sp_count
    rw [if_neg c0, if_neg c1, if_neg c2, if_neg c3, if_neg c4, if_neg c5]
theorem e9_member (l : Launch) (z : st_T) (T : tT) (Q : tQ) (hI : CI z T Q) (c k : Int32) : ri_Ev l y9_member w9_member r9_member 0 0 [.ref 16, .int c, .int k] (st_h z) (CO z (sp_member T Q c k)) := by
  obtain ⟨hW, hQ, hS, hR, hF, hO⟩ := id hI
  refine ri_ev (t9_member l _) rfl rfl rfl (Nat.le_of_ble_eq_true rfl) rfl (z9_member l _) (fun J hJ => ?_)
  have bad : (bt 0 c 12 && bt 0 k 3) = false → CO z (sp_member T Q c k) (some (.int (-1))) (st_h z) := fun h => CO_same hI (by unfold sp_member; rw [h]; rfl)
  refine ri_run_ok hJ [] 90 0 0 0 _ _ _ ?_
  refine ⟨_, e9_isChord l _ c, ?_⟩
  rintro r h' ⟨rfl, rfl⟩
  refine ⟨fun q => bad (by rw [zb_0.mp q]; rfl), fun c1 => ⟨fun q => bad (by rw [bt_lo (x := k) q, Bool.and_false]), fun c2 => ⟨fun c3 => ?_, fun q => bad ?_⟩⟩⟩
  · have b1 := zb_1.mp c1
    have c3 : k < 4 := c3
    have b2 : bt 0 k 3 = true := bt_in c2 (fun q => by rw [i_ltI] at c3 q; have e1 : (4 : Int32).toInt = 4 := rfl; have e2 : (3 : Int32).toInt = 3 := rfl; omega)
    obtain ⟨i1, i2⟩ := nt_le (m := 12) (by decide) b1
    obtain ⟨k1, k2⟩ := nt_le (m := 3) (by decide) b2
    have e := e1_memberClass l z T hR (c := nt c) (k := nt k) (by omega) (by omega)
    rw [i2, k2] at e
    refine ⟨_, e, ?_⟩
    rintro r h' ⟨rfl, rfl⟩
    refine CO_same hI ?_
    unfold sp_member
    rw [b1, b2]; rfl
  · have q : ¬ k < 4 := q
    have : bt 0 k 3 = false := bt_hi (by rw [i_ltI] at q ⊢; have e1 : (4 : Int32).toInt = 4 := rfl; have e2 : (3 : Int32).toInt = 3 := rfl; omega)
    rw [this, Bool.and_false]
