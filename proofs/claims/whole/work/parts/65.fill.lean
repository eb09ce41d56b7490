/-! fill: all states of a place -/
theorem okS_up {T : tT} {i U : Nat} {M : Nat → Bool} (hU : U < 2 ^ 18) (h0 : lowN T i 0 ≤ 36 + U / 4096 ∧ 36 + U / 4096 ≤ highN T i 0) (h1 : lowN T i 1 ≤ 36 + U / 64 % 64 ∧ 36 + U / 64 % 64 ≤ highN T i 1) (h2 : lowN T i 2 ≤ 36 + U % 64 ∧ 36 + U % 64 ≤ highN T i 2) (h3 : U / 64 % 64 ≤ U / 4096 ∧ U / 4096 ≤ U / 64 % 64 + 12) (h4 : U % 64 ≤ U / 64 % 64 ∧ U / 64 % 64 ≤ U % 64 + 12)
    (hM : ∀ c, c < 13 → M c = ((figM T i c && r6 T i c) && (has T c (36 + U / 4096) && (has T c (36 + U / 64 % 64) && has T c (36 + U % 64))))) :
    ∀ x, x / 1024 = U → okS T i x = (decide (chd x < 13) && (M (chd x) && (basM T i (pit x 3) (chd x) && (decide (lowN T i 3 ≤ pit x 3) && (decide (pit x 3 ≤ highN T i 3) && (decide (pit x 3 ≤ 36 + U % 64) && (decide (36 + U % 64 ≤ pit x 3 + 19) && k45 T x))))))) := by
  intro x hx
  have e0 : pit x 0 = 36 + U / 4096 := by rw [pit0]; omega
  have e1 : pit x 1 = 36 + U / 64 % 64 := by rw [pit1]; omega
  have e2 : pit x 2 = 36 + U % 64 := by rw [pit2]; omega
  unfold okS rgv spc
  rw [e0, e1, e2, decide_eq_true (show x < 2 ^ 28 by omega), decide_eq_true h0.1, decide_eq_true h0.2, decide_eq_true h1.1, decide_eq_true h1.2, decide_eq_true h2.1, decide_eq_true h2.2, decide_eq_true (show 36 + U / 64 % 64 ≤ 36 + U / 4096 by omega), decide_eq_true (show 36 + U / 4096 ≤ 36 + U / 64 % 64 + 12 by omega), decide_eq_true (show 36 + U % 64 ≤ 36 + U / 64 % 64 by omega), decide_eq_true (show 36 + U / 64 % 64 ≤ 36 + U % 64 + 12 by omega)]
  by_cases hc : chd x < 13
  · rw [hM _ hc, decide_eq_true hc]
    generalize decide (lowN T i 3 ≤ pit x 3) = a
    generalize decide (pit x 3 ≤ highN T i 3) = b
    generalize decide (pit x 3 ≤ 36 + U % 64) = c
    generalize decide (36 + U % 64 ≤ pit x 3 + 19) = d
    generalize k45 T x = k
    generalize basM T i (pit x 3) (chd x) = m
    generalize (figM T i (chd x) && r6 T i (chd x)) = f
    generalize has T (chd x) (36 + U / 4096) = g0
    generalize has T (chd x) (36 + U / 64 % 64) = g1
    generalize has T (chd x) (36 + U % 64) = g2
    cases a <;> cases b <;> cases c <;> cases d <;> cases k <;> cases m <;> cases f <;> cases g0 <;> cases g1 <;> cases g2 <;> rfl
  · rw [decide_eq_false hc]; rfl
/-- what a state must keep -/
theorem okS_all {T : tT} {i x : Nat} (h : okS T i x = true) : x < 2 ^ 28 ∧ chd x < 13 ∧ (lowN T i 0 ≤ pit x 0 ∧ pit x 0 ≤ highN T i 0) ∧ (lowN T i 1 ≤ pit x 1 ∧ pit x 1 ≤ highN T i 1) ∧ (lowN T i 2 ≤ pit x 2 ∧ pit x 2 ≤ highN T i 2) ∧ (lowN T i 3 ≤ pit x 3 ∧ pit x 3 ≤ highN T i 3) ∧ (pit x 1 ≤ pit x 0 ∧ pit x 0 ≤ pit x 1 + 12 ∧ pit x 2 ≤ pit x 1 ∧ pit x 1 ≤ pit x 2 + 12 ∧ pit x 3 ≤ pit x 2 ∧ pit x 2 ≤ pit x 3 + 19) ∧ (figM T i (chd x) = true ∧ r6 T i (chd x) = true) ∧ has T (chd x) (pit x 0) = true ∧ has T (chd x) (pit x 1) = true ∧ has T (chd x) (pit x 2) = true ∧ basM T i (pit x 3) (chd x) = true ∧ k45 T x = true := by
  unfold okS rgv spc at h
  simp only [Bool.and_eq_true, decide_eq_true_eq] at h
  exact h
theorem okS_no {T : tT} {i x : Nat} (h : okS T i x = true → False) : okS T i x = false := by
  cases hh : okS T i x with
  | false => rfl
  | true => exact (h hh).elim
theorem wv6 {U b : Nat} (hU : U < 2 ^ 18) (h36 : 36 ≤ b) (hb : b < 100) : (nI U <<< ((6 : Int32) &&& 31)) ||| (nI b - 36) = nI (64 * U + (b - 36)) := by
  rw [show ((6 : Int32) &&& 31) = nI 6 &&& 31 from rfl, pk_shlN (n := U) _ 6 (sh_amt2 (k := 6) (by decide)) (by omega), show (36 : Int32) = nI 36 from rfl, pk_sub h36, nn_or (k := 6) (by omega)]
  rw [show U * 2 ^ 6 = 64 * U by omega]
theorem mand (P Q : Nat → Bool) : nI (msk P 13) &&& nI (msk Q 13) = nI (msk (fun c => P c && Q c) 13) := by rw [nx_and, msk_and]
theorem m31 (P : Nat → Bool) : msk P 13 < 2 ^ 31 := Nat.lt_trans (msk_lt P 13) (by decide)
theorem blk2 {x S A t : Nat} (hS : S < 64) (hA : A < 64) (ht : t < 64) (h1 : 65536 * (64 * S + A) + 1024 * t ≤ x) (h2 : x < 65536 * (64 * S + A) + 1024 * t + 1024) : pit x 0 = 36 + S ∧ pit x 1 = 36 + A ∧ pit x 2 = 36 + t := by
  rw [pit0, pit1, pit2]
  refine ⟨?_, ?_, ?_⟩ <;> omega
theorem blk1 {x S A : Nat} (hS : S < 64) (hA : A < 64) (h1 : 65536 * (64 * S + A) ≤ x) (h2 : x < 65536 * (64 * S + A) + 65536) : pit x 0 = 36 + S ∧ pit x 1 = 36 + A := by
  rw [pit0, pit1]
  refine ⟨?_, ?_⟩ <;> omega
theorem blk0 {x S : Nat} (hS : S < 64) (h1 : 4194304 * S ≤ x) (h2 : x < 4194304 * S + 4194304) : pit x 0 = 36 + S := by
  rw [pit0]
  omega
set_option maxHeartbeats 4000000 in
theorem e2_fill (l : Launch) {p : Nat} (hp : lyP p) (z : st_T) (T : tT) (hW : TW T) (hS : RS z T) (hR : RH z T) {i : Nat} (hi : i < 16) : ri_Ev l y2_fill w2_fill r2_fill 0 0 [.ref 30, .ref (16 + p), .int (nI i)] (st_h z) (ri_zx fun z' => LY z' p (stL T i) ∧ md [p, p + 1, 15, 16] z z') := by
  refine ri_ev (t2_fill l _) rfl rfl rfl (Nat.le_of_ble_eq_true rfl) rfl (z2_fill l _) (fun J hJ => ?_)
  have hp9 : 23 ≤ p := by rcases hp with h | ⟨i, _, h⟩ <;> omega
  have hmd : ∀ q ∈ [p, p + 1, 15, 16], q < 9 ∨ 13 < q := by
    intro q hq
    simp only [List.mem_cons, List.not_mem_nil, or_false] at hq
    omega
  have hmd2 : ∀ q ∈ [p, p + 1, 15, 16], 8 < q := by
    intro q hq
    simp only [List.mem_cons, List.not_mem_nil, or_false] at hq
    omega
  have hmd3 : ∀ q ∈ [p, p + 1], q < 15 ∨ 16 < q := by
    intro q hq
    simp only [List.mem_cons, List.not_mem_nil, or_false] at hq
    omega
  have hsub : ∀ q ∈ [p, p + 1], q ∈ [p, p + 1, 15, 16] := by simp
  have l0 := lim_lt hW hi (v := 0) (by decide)
  have l1 := lim_lt hW hi (v := 1) (by decide)
  have l2 := lim_lt hW hi (v := 2) (by decide)
  -- masks
  obtain ⟨M0, hM0⟩ : ∃ M : Nat → Bool, M = fun c => figM T i c && r6 T i c := ⟨_, rfl⟩
  -- the tenor
  have tloop : ∀ s a, 36 ≤ s → s ≤ 84 → 36 ≤ a → a ≤ 84 → (lowN T i 0 ≤ s ∧ s ≤ highN T i 0) → (lowN T i 1 ≤ a ∧ a ≤ highN T i 1) → (a ≤ s ∧ s ≤ a + 12) → ∀ o5 o6, (∀ z2, LY z2 p (stB T i (65536 * (64 * (s - 36) + (a - 36)) + 65536)) → BT z2 T i 4 → md [p, p + 1, 15, 16] z z2 → ∀ o8 o9 o10 o11 o12, J 114 0 0 [some (.ref 30), some (.ref (16 + p)), some (.int (nI i)), some (.int (nI (msk M0 13))), some (.int (nI s)), o5, o6, some (.int (nI a)), o8, o9, o10, o11, o12] [] (st_h z2)) → ∀ n t, n + t = 101 → 36 ≤ t → begN (lowN T i 2) a 12 ≤ t → t ≤ 100 → ∀ z1, LY z1 p (stB T i (65536 * (64 * (s - 36) + (a - 36)) + 1024 * (t - 36))) → BT z1 T i 4 → md [p, p + 1, 15, 16] z z1 → ∀ o12, J 91 0 0 [some (.ref 30), some (.ref (16 + p)), some (.int (nI i)), some (.int (nI (msk M0 13))), some (.int (nI s)), o5, o6, some (.int (nI a)), some (.int (nI (msk (fun c => (M0 c && has T c s) && has T c a) 13))), some (.int (nI (64 * (s - 36) + (a - 36)))), some (.int (nI (endN (highN T i 2) a))), some (.int (nI t)), o12] [] (st_h z1) := by
    intro s a hs36 hs84 ha36 ha84 hs ha hsa o5 o6 h114 n
    induction n with
    | zero => intro t ht h36 hbeg ht100; omega
    | succ n ih =>
      intro t ht h36 hbeg ht100 z1 hL1 hB1 hm o12
      have e1 := nI_1 t
      have hR1 := RH_md hR hm hmd
      have hS1 := RS_md hS hm hmd2
      have hend : endN (highN T i 2) a ≤ 84 := by unfold endN; split <;> omega
      have hbg : lowN T i 2 ≤ t ∧ a ≤ t + 12 := by unfold begN at hbeg; split at hbeg <;> omega
      have hU : 64 * (64 * (s - 36) + (a - 36)) + (t - 36) < 2 ^ 18 ∨ t = 100 := by omega
      refine ri_go hJ [91, 112, 114] 130 91 rfl ?_
      refine ⟨fun c => h114 z1 ?_ hB1 hm _ _ _ _ _, fun c => ⟨_, e1_chordsWith l z1 T hR1 (p := t) (by omega), ?_⟩⟩
      · have c : nI (endN (highN T i 2) a) < nI t := c
        rw [nn_lt (by omega) (by omega)] at c
        rw [stB_to (B := 65536 * (64 * (s - 36) + (a - 36)) + 1024 * (t - 36)) (by omega) (fun x h1 h2 => okS_no fun hx => ?_)]
        · exact hL1
        · have hall := okS_all hx
          have e2 : t ≤ pit x 2 := by rw [pit2]; omega
          have e3 : pit x 1 = a := by rw [pit1]; omega
          unfold endN at c
          split at c <;> omega
      · rintro r h' ⟨rfl, rfl⟩
        have c : ¬ nI (endN (highN T i 2) a) < nI t := c
        rw [nn_lt (by omega) (by omega)] at c
        have hbe : t ≤ highN T i 2 ∧ t ≤ a := by unfold endN at c; split at c <;> omega
        have hmk := mand (fun c => (M0 c && has T c s) && has T c a) (fun c => decide (tmof T c t < 4))
        have k112 : ∀ z2, LY z2 p (stB T i (65536 * (64 * (s - 36) + (a - 36)) + 1024 * (t + 1 - 36))) → BT z2 T i 4 → md [p, p + 1, 15, 16] z z2 → ∀ o', J 112 0 0 [some (.ref 30), some (.ref (16 + p)), some (.int (nI i)), some (.int (nI (msk M0 13))), some (.int (nI s)), o5, o6, some (.int (nI a)), some (.int (nI (msk (fun c => (M0 c && has T c s) && has T c a) 13))), some (.int (nI (64 * (s - 36) + (a - 36)))), some (.int (nI (endN (highN T i 2) a))), some (.int (nI t)), o'] [] (st_h z2) := by
          intro z2 hL2 hB2 hm2 o'
          refine ri_go hJ [91] 130 112 rfl ?_
          have := ih (t + 1) (by omega) (by omega) (by omega) (by omega) z2 hL2 hB2 hm2 o'
          rw [← e1] at this
          exact this
        refine ⟨fun d => k112 z1 ?_ hB1 hm _, fun d => ⟨_, e11_withVoice l _ _ _, ?_⟩⟩
        · have d : nI (msk (fun c => (M0 c && has T c s) && has T c a) 13) &&& nI (msk (fun c => decide (tmof T c t < 4)) 13) = 0 := d
          rw [hmk, nk_eq (k := 0) (b := 0) rfl (m31 _) (by decide)] at d
          rw [stB_to (B := 65536 * (64 * (s - 36) + (a - 36)) + 1024 * (t - 36)) (by omega) (fun x h1 h2 => okS_no fun hx => ?_)]
          · exact hL1
          · have hall := okS_all hx
            obtain ⟨q0, q1, q2⟩ := blk2 (x := x) (S := s - 36) (A := a - 36) (t := t - 36) (by omega) (by omega) (by omega) h1 (by omega)
            rw [show 36 + (s - 36) = s by omega] at q0
            rw [show 36 + (a - 36) = a by omega] at q1
            rw [show 36 + (t - 36) = t by omega] at q2
            have hz := msk_z d (chd x) hall.2.1
            rw [q0, q1, q2] at hall
            rw [hM0] at hz
            have hh : has T (chd x) t = decide (tmof T (chd x) t < 4) := rfl
            simp only [hall.2.2.2.2.2.2.2.1.1, hall.2.2.2.2.2.2.2.1.2, hall.2.2.2.2.2.2.2.2.1, hall.2.2.2.2.2.2.2.2.2.1, ← hh, hall.2.2.2.2.2.2.2.2.2.2.1] at hz
            cases hz
        · rintro r h' ⟨rfl, rfl⟩
          have wv := wv6 (U := 64 * (s - 36) + (a - 36)) (b := t) (by omega) h36 (by omega)
          have hUl : 64 * (64 * (s - 36) + (a - 36)) + (t - 36) < 2 ^ 18 := by omega
          have eU0 : 36 + (64 * (64 * (s - 36) + (a - 36)) + (t - 36)) / 4096 = s := by omega
          have eU1 : 36 + (64 * (64 * (s - 36) + (a - 36)) + (t - 36)) / 64 % 64 = a := by omega
          have eU2 : 36 + (64 * (64 * (s - 36) + (a - 36)) + (t - 36)) % 64 = t := by omega
          have hok := okS_up (T := T) (i := i) (U := 64 * (64 * (s - 36) + (a - 36)) + (t - 36)) (M := fun c => ((M0 c && has T c s) && has T c a) && decide (tmof T c t < 4)) hUl (by rw [eU0]; exact hs) (by rw [eU1]; exact ha) (by rw [eU2]; exact ⟨hbg.1, hbe.1⟩) (by omega) (by omega) (fun c _ => by rw [eU0, eU1, eU2, hM0]; show _ = _; simp [has, Bool.and_assoc])
          rw [eU2] at hok
          have eb := e2_fillBass l hp z1 T hW hS1 hR1 (i := i) (U := 64 * (64 * (s - 36) + (a - 36)) + (t - 36)) (t := t) (M := fun c => ((M0 c && has T c s) && has T c a) && decide (tmof T c t < 4)) hi hB1 hUl ⟨h36, by omega⟩ hok (by rw [show 1024 * (64 * (64 * (s - 36) + (a - 36)) + (t - 36)) = 65536 * (64 * (s - 36) + (a - 36)) + 1024 * (t - 36) by omega]; exact hL1)
          rw [← wv, ← hmk] at eb
          refine ⟨_, eb, ?_⟩
          rintro r h' ⟨rfl, z2, rfl, hL2, hm2⟩
          refine k112 z2 ?_ (BT_md hB1 hm2 hmd3) (md_tr hm (md_mo hm2 hsub)) _
          rw [show 65536 * (64 * (s - 36) + (a - 36)) + 1024 * (t + 1 - 36) = 1024 * (64 * (64 * (s - 36) + (a - 36)) + (t - 36)) + 1024 by omega]
          exact hL2
  -- the alto
  have aloop : ∀ s, 36 ≤ s → s ≤ 84 → (lowN T i 0 ≤ s ∧ s ≤ highN T i 0) → (∀ z2, LY z2 p (stB T i (4194304 * (s - 36) + 4194304)) → BT z2 T i 4 → md [p, p + 1, 15, 16] z z2 → ∀ o5 o6 o7 o8 o9 o10 o11 o12, J 116 0 0 [some (.ref 30), some (.ref (16 + p)), some (.int (nI i)), some (.int (nI (msk M0 13))), some (.int (nI s)), o5, o6, o7, o8, o9, o10, o11, o12] [] (st_h z2)) → ∀ n a, n + a = 101 → 36 ≤ a → begN (lowN T i 1) s 12 ≤ a → a ≤ 100 → ∀ z1, LY z1 p (stB T i (4194304 * (s - 36) + 65536 * (a - 36))) → BT z1 T i 4 → md [p, p + 1, 15, 16] z z1 → ∀ o8 o9 o10 o11 o12, J 54 0 0 [some (.ref 30), some (.ref (16 + p)), some (.int (nI i)), some (.int (nI (msk M0 13))), some (.int (nI s)), some (.int (nI (msk (fun c => M0 c && has T c s) 13))), some (.int (nI (endN (highN T i 1) s))), some (.int (nI a)), o8, o9, o10, o11, o12] [] (st_h z1) := by
    intro s hs36 hs84 hs h116 n
    induction n with
    | zero => intro a ha h36 hbeg ha100; omega
    | succ n ih =>
      intro a ha h36 hbeg ha100 z1 hL1 hB1 hm o8 o9 o10 o11 o12
      have e1 := nI_1 a
      have hR1 := RH_md hR hm hmd
      have hend : endN (highN T i 1) s ≤ 84 := by unfold endN; split <;> omega
      have hbg : lowN T i 1 ≤ a ∧ s ≤ a + 12 := by unfold begN at hbeg; split at hbeg <;> omega
      have k114 : ∀ z2, LY z2 p (stB T i (4194304 * (s - 36) + 65536 * (a + 1 - 36))) → BT z2 T i 4 → md [p, p + 1, 15, 16] z z2 → a ≤ 84 → ∀ o8 o9 o10 o11 o12, J 114 0 0 [some (.ref 30), some (.ref (16 + p)), some (.int (nI i)), some (.int (nI (msk M0 13))), some (.int (nI s)), some (.int (nI (msk (fun c => M0 c && has T c s) 13))), some (.int (nI (endN (highN T i 1) s))), some (.int (nI a)), o8, o9, o10, o11, o12] [] (st_h z2) := by
        intro z2 hL2 hB2 hm2 ha84 o8 o9 o10 o11 o12
        refine ri_go hJ [54] 130 114 rfl ?_
        have := ih (a + 1) (by omega) (by omega) (by omega) (by omega) z2 hL2 hB2 hm2 o8 o9 o10 o11 o12
        rw [← e1] at this
        exact this
      refine ri_go hJ [91, 114, 116] 130 54 rfl ?_
      refine ⟨fun c => h116 z1 ?_ hB1 hm _ _ _ _ _ _ _ _, fun c => ⟨_, e1_chordsWith l z1 T hR1 (p := a) (by omega), ?_⟩⟩
      · have c : nI (endN (highN T i 1) s) < nI a := c
        rw [nn_lt (by omega) (by omega)] at c
        rw [stB_to (B := 4194304 * (s - 36) + 65536 * (a - 36)) (by omega) (fun x h1 h2 => okS_no fun hx => ?_)]
        · exact hL1
        · have hall := okS_all hx
          have q0 := blk0 (x := x) (S := s - 36) (by omega) (by omega) (by omega)
          have q1 : a ≤ pit x 1 := by
            have := hall.1
            clear hall hbeg hbg hend hs l0 l1 l2
            rw [pit1]; omega
          unfold endN at c
          split at c <;> omega
      · rintro r h' ⟨rfl, rfl⟩
        have c : ¬ nI (endN (highN T i 1) s) < nI a := c
        rw [nn_lt (by omega) (by omega)] at c
        have hbe : a ≤ highN T i 1 ∧ a ≤ s := by unfold endN at c; split at c <;> omega
        have hmk := mand (fun c => M0 c && has T c s) (fun c => decide (tmof T c a < 4))
        refine ⟨fun d => ⟨_, e11_withVoice l _ _ _, ?_⟩, fun d => k114 z1 ?_ hB1 hm (by omega) _ _ _ _ _⟩
        · rintro r h' ⟨rfl, rfl⟩
          refine ⟨_, e11_withVoice l _ _ _, ?_⟩
          rintro r h' ⟨rfl, rfl⟩
          have b2 := hB1 2 (by decide)
          have w0 : ((0 : Int32) <<< ((6 : Int32) &&& 31)) ||| (nI s - 36) = nI (s - 36) := by
            have := wv6 (U := 0) (b := s) (by decide) hs36 (by omega)
            rw [show 64 * 0 + (s - 36) = s - 36 by omega] at this
            exact this
          have w1 := wv6 (U := s - 36) (b := a) (by omega) h36 (by omega)
          rw [← w0] at w1
          have eb : (if z1.2.1 15 (2 : Int32).toNatClampNeg < nI a - st_WIDEST_BELOW.getD (nI 1).toNatClampNeg 0 then nI a - st_WIDEST_BELOW.getD (nI 1).toNatClampNeg 0 else z1.2.1 15 (2 : Int32).toNatClampNeg) = nI (begN (lowN T i 2) a 12) := by
            rw [show (2 : Int32).toNatClampNeg = 2 from rfl, b2.1, wid_st 1 (by decide)]
            exact beg_n l2.2.2 (by omega) (by omega) (by decide)
          have ee : (if nI a < z1.2.1 16 (2 : Int32).toNatClampNeg then nI a else z1.2.1 16 (2 : Int32).toNatClampNeg) = nI (endN (highN T i 2) a) := by
            rw [show (2 : Int32).toNatClampNeg = 2 from rfl, b2.2]
            exact min_n (by omega) (by omega)
          have hb36 : 36 ≤ begN (lowN T i 2) a 12 := by unfold begN; split <;> omega
          have hb84 : begN (lowN T i 2) a 12 ≤ 100 := by unfold begN; split <;> omega
          have ht := tloop s a hs36 hs84 h36 (by omega) hs ⟨hbg.1, hbe.1⟩ ⟨hbe.2, hbg.2⟩ (some (.int (nI (msk (fun c => M0 c && has T c s) 13)))) (some (.int (nI (endN (highN T i 1) s)))) (fun z2 hL2 hB2 hm2 => k114 z2 (by rw [show 4194304 * (s - 36) + 65536 * (a + 1 - 36) = 65536 * (64 * (s - 36) + (a - 36)) + 65536 by omega]; exact hL2) hB2 hm2 (by omega)) (101 - begN (lowN T i 2) a 12) (begN (lowN T i 2) a 12) (by omega) hb36 (Nat.le_refl _) hb84 z1 (by
            rw [stB_to (B := 65536 * (64 * (s - 36) + (a - 36))) (by omega) (fun x h1 h2 => okS_no fun hx => ?_)]
            · rw [show 65536 * (64 * (s - 36) + (a - 36)) = 4194304 * (s - 36) + 65536 * (a - 36) by omega]
              exact hL1
            · have hall := okS_all hx
              obtain ⟨q0, q1⟩ := blk1 (x := x) (S := s - 36) (A := a - 36) (by omega) (by omega) h1 (by omega)
              have q2 : pit x 2 < begN (lowN T i 2) a 12 := by
                have := hall.1
                clear hall hbeg hbg hend hs l0 l1
                rw [pit2]; omega
              unfold begN at q2
              split at q2 <;> omega) hB1 hm o12
          have hmk2 : nI (msk (fun c => M0 c && has T c s) 13) &&& nI (msk (fun c => decide (tmof T c a < 4)) 13) = nI (msk (fun c => (M0 c && has T c s) && has T c a) 13) := hmk
          rw [← eb, ← ee, ← w1, ← hmk2] at ht
          exact ⟨vp_in_nI (n := 2) (by decide) (by decide), vp_in_nI (n := 2) (by decide) (by decide), vp_in_nI (n := 1) (by decide) (by decide), ht⟩
        · have d : nI (msk (fun c => M0 c && has T c s) 13) &&& nI (msk (fun c => decide (tmof T c a < 4)) 13) = 0 := Decidable.not_not.mp d
          rw [hmk, nk_eq (k := 0) (b := 0) rfl (m31 _) (by decide)] at d
          rw [stB_to (B := 4194304 * (s - 36) + 65536 * (a - 36)) (by omega) (fun x h1 h2 => okS_no fun hx => ?_)]
          · exact hL1
          · have hall := okS_all hx
            obtain ⟨q0, q1⟩ := blk1 (x := x) (S := s - 36) (A := a - 36) (by omega) (by omega) (by omega) (by omega)
            rw [show 36 + (s - 36) = s by omega] at q0
            rw [show 36 + (a - 36) = a by omega] at q1
            have hz := msk_z d (chd x) hall.2.1
            rw [q0, q1] at hall
            rw [hM0] at hz
            have hh : has T (chd x) a = decide (tmof T (chd x) a < 4) := rfl
            simp only [hall.2.2.2.2.2.2.2.1.1, hall.2.2.2.2.2.2.2.1.2, hall.2.2.2.2.2.2.2.2.1, ← hh, hall.2.2.2.2.2.2.2.2.2.1] at hz
            cases hz
  -- the soprano
  have sloop : ∀ n s, n + s = 101 → 36 ≤ s → lowN T i 0 ≤ s → s ≤ 100 → ∀ z1, LY z1 p (stB T i (4194304 * (s - 36))) → BT z1 T i 4 → md [p, p + 1, 15, 16] z z1 → ∀ o5 o6 o7 o8 o9 o10 o11 o12, J 20 0 0 [some (.ref 30), some (.ref (16 + p)), some (.int (nI i)), some (.int (nI (msk M0 13))), some (.int (nI s)), o5, o6, o7, o8, o9, o10, o11, o12] [] (st_h z1) := by
    intro n
    induction n with
    | zero => intro s hs h36 hbeg hs100; omega
    | succ n ih =>
      intro s hs h36 hbeg hs100 z1 hL1 hB1 hm o5 o6 o7 o8 o9 o10 o11 o12
      have e1 := nI_1 s
      have hR1 := RH_md hR hm hmd
      have b0 := hB1 0 (by decide)
      have b1 := hB1 1 (by decide)
      have k116 : s ≤ 84 → ∀ z2, LY z2 p (stB T i (4194304 * (s - 36) + 4194304)) → BT z2 T i 4 → md [p, p + 1, 15, 16] z z2 → ∀ o5 o6 o7 o8 o9 o10 o11 o12, J 116 0 0 [some (.ref 30), some (.ref (16 + p)), some (.int (nI i)), some (.int (nI (msk M0 13))), some (.int (nI s)), o5, o6, o7, o8, o9, o10, o11, o12] [] (st_h z2) := by
        intro hs84 z2 hL2 hB2 hm2 o5 o6 o7 o8 o9 o10 o11 o12
        refine ri_go hJ [20] 130 116 rfl ?_
        have := ih (s + 1) (by omega) (by omega) (by omega) (by omega) z2 (by rw [show 4194304 * (s + 1 - 36) = 4194304 * (s - 36) + 4194304 by omega]; exact hL2) hB2 hm2 o5 o6 o7 o8 o9 o10 o11 o12
        rw [← e1] at this
        exact this
      refine ri_go hJ [54, 116] 130 20 rfl ?_
      refine ⟨vp_in_nI (n := 0) (by decide) (by decide), fun c => ⟨rfl, _, rfl, ?_, hm⟩, fun c => ⟨_, e1_chordsWith l z1 T hR1 (p := s) (by omega), ?_⟩⟩
      · have c : z1.2.1 16 0 < nI s := c
        rw [b0.2, nn_lt (by omega) (by omega)] at c
        show LY z1 p (stB T i (2 ^ 28))
        rw [stB_to (B := 4194304 * (s - 36)) (by omega) (fun x h1 h2 => okS_no fun hx => ?_)]
        · exact hL1
        · have hall := okS_all hx
          have q0 : s ≤ pit x 0 := by
            have := hall.1
            clear hall l0 l1 l2 c
            rw [pit0]; omega
          omega
      · rintro r h' ⟨rfl, rfl⟩
        have c : ¬ z1.2.1 16 0 < nI s := c
        rw [b0.2, nn_lt (by omega) (by omega)] at c
        have hmk := mand M0 (fun c => decide (tmof T c s < 4))
        refine ⟨fun d => ?_, fun d => k116 (by omega) z1 ?_ hB1 hm _ _ _ _ _ _ _ _⟩
        · have eb : (if z1.2.1 15 (1 : Int32).toNatClampNeg < nI s - st_WIDEST_BELOW.getD (nI 0).toNatClampNeg 0 then nI s - st_WIDEST_BELOW.getD (nI 0).toNatClampNeg 0 else z1.2.1 15 (1 : Int32).toNatClampNeg) = nI (begN (lowN T i 1) s 12) := by
            rw [show (1 : Int32).toNatClampNeg = 1 from rfl, b1.1, wid_st 0 (by decide)]
            exact beg_n l1.2.2 (by omega) (by omega) (by decide)
          have ee : (if nI s < z1.2.1 16 (1 : Int32).toNatClampNeg then nI s else z1.2.1 16 (1 : Int32).toNatClampNeg) = nI (endN (highN T i 1) s) := by
            rw [show (1 : Int32).toNatClampNeg = 1 from rfl, b1.2]
            exact min_n (by omega) (by omega)
          have hb36 : 36 ≤ begN (lowN T i 1) s 12 := by unfold begN; split <;> omega
          have hb84 : begN (lowN T i 1) s 12 ≤ 100 := by unfold begN; split <;> omega
          have ha := aloop s h36 (by omega) ⟨hbeg, by omega⟩ (k116 (by omega)) (101 - begN (lowN T i 1) s 12) (begN (lowN T i 1) s 12) (by omega) hb36 (Nat.le_refl _) hb84 z1 (by
            rw [stB_to (B := 4194304 * (s - 36)) (by omega) (fun x h1 h2 => okS_no fun hx => ?_)]
            · exact hL1
            · have hall := okS_all hx
              have q0 := blk0 (x := x) (S := s - 36) (by omega) h1 (by omega)
              have q1 : pit x 1 < begN (lowN T i 1) s 12 := by
                have := hall.1
                clear hall l0 l2 c
                rw [pit1]; omega
              unfold begN at q1
              split at q1 <;> omega) hB1 hm o8 o9 o10 o11 o12
          have hmk2 : nI (msk M0 13) &&& nI (msk (fun c => decide (tmof T c s < 4)) 13) = nI (msk (fun c => M0 c && has T c s) 13) := hmk
          rw [← eb, ← ee, ← hmk2] at ha
          exact ⟨vp_in_nI (n := 1) (by decide) (by decide), vp_in_nI (n := 1) (by decide) (by decide), vp_in_nI (n := 0) (by decide) (by decide), ha⟩
        · have d : nI (msk M0 13) &&& nI (msk (fun c => decide (tmof T c s < 4)) 13) = 0 := Decidable.not_not.mp d
          rw [hmk, nk_eq (k := 0) (b := 0) rfl (m31 _) (by decide)] at d
          rw [stB_to (B := 4194304 * (s - 36)) (by omega) (fun x h1 h2 => okS_no fun hx => ?_)]
          · exact hL1
          · have hall := okS_all hx
            have q0 := blk0 (x := x) (S := s - 36) (by omega) h1 h2
            rw [show 36 + (s - 36) = s by omega] at q0
            have hz := msk_z d (chd x) hall.2.1
            rw [q0] at hall
            rw [hM0] at hz
            have hh : has T (chd x) s = decide (tmof T (chd x) s < 4) := rfl
            simp only [hall.2.2.2.2.2.2.2.1.1, hall.2.2.2.2.2.2.2.1.2, ← hh, hall.2.2.2.2.2.2.2.2.1] at hz
            cases hz
  -- the beginning
  have hoat : ri_at (st_h z) (16 + p) = some (.inr (5, [.int (z.1 p 0), .ref (17 + p), .ref (18 + p)])) := lyP_cases (P := fun p => ri_at (st_h z) (16 + p) = some (.inr (5, [.int (z.1 p 0), .ref (17 + p), .ref (18 + p)]))) hp rfl rfl rfl rfl rfl rfl rfl rfl rfl rfl rfl rfl rfl rfl rfl rfl rfl
  have hset : (st_h z).set p (.inr (5, [.int 0, .ref (17 + p), .ref (18 + p)])) = st_h (fs z p 0 0) := lyP_cases (P := fun p => (st_h z).set p (.inr (5, [.int 0, .ref (17 + p), .ref (18 + p)])) = st_h (fs z p 0 0)) hp rfl rfl rfl rfl rfl rfl rfl rfl rfl rfl rfl rfl rfl rfl rfl rfl rfl
  have h16 : Nat.ble 16 (16 + p) = true := Nat.ble_eq_true_of_le (Nat.le_add_right 16 p)
  have hm0 : md [p, p + 1, 15, 16] z (fs z p 0 0) := md_fs (by simp)
  have k3 : J 3 0 0 [some (.ref 30), some (.ref (16 + p)), some (.int (nI i)), none, none, none, none, none, none, none, none, none, none] [] (st_h (fs z p 0 0)) := by
    refine ri_go hJ [20] 130 3 rfl ?_
    refine ⟨_, e2_setLimits l _ T hW (RS_md hS hm0 hmd2) hi, ?_⟩
    rintro r h' ⟨rfl, z2, rfl, hB2, hm2⟩
    have hm3 : md [p, p + 1, 15, 16] z z2 := md_tr hm0 (md_mo hm2 (by simp))
    refine ⟨_, e0_figuredChords l z2 T hW (RS_md hS hm3 hmd2) hi, ?_⟩
    rintro r h' ⟨rfl, rfl⟩
    refine ⟨_, e2_chordsByRule6 l z2 T hW (RS_md hS hm3 hmd2) hi, ?_⟩
    rintro r h' ⟨rfl, rfl⟩
    have hLy : LY z2 p (stB T i (4194304 * (lowN T i 0 - 36))) := by
      rw [stB_to (B := 0) (by omega) (fun x h1 h2 => okS_no fun hx => ?_)]
      · refine LY_md (z := fs z p 0 0) (ps := [15, 16]) ⟨?_, fun j x hj => by simp [stB] at hj⟩ hm2 (by simp; omega) (by simp; omega)
        rw [fs_self]; rfl
      · have hall := okS_all hx
        have q0 : pit x 0 < lowN T i 0 := by
          have := hall.1
          clear hall l1 l2
          rw [pit0]; omega
        omega
    have hs := sloop (101 - lowN T i 0) (lowN T i 0) (by omega) l0.2.2 (Nat.le_refl _) (by omega) z2 hLy hB2 hm3 none none none none none none none none
    have e0 : nI (msk (figM T i) 13) &&& r6v T i = nI (msk M0 13) := by rw [r6_and, hM0]
    rw [← e0, ← (hB2 0 (by decide)).1] at hs
    exact ⟨vp_in_nI (n := 0) (by decide) (by decide), hs⟩
  refine ri_run_ok hJ [3] 130 0 0 0 _ _ _ ?_
  conv => whnf
  rw [hoat]
  conv => whnf
  rw [h16]
  show J 3 0 0 [some (.ref 30), some (.ref (16 + p)), some (.int (nI i)), none, none, none, none, none, none, none, none, none, none] [] ((st_h z).set (16 + p - 16) (.inr (5, [.int 0, .ref (17 + p), .ref (18 + p)])))
  rw [Nat.add_sub_cancel_left, hset]
  exact k3
