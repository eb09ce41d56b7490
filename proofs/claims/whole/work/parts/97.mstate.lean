/-! THE REFERENCE: one state: mayHave, barsState, costOfState -/
def mhv (T : tT) (i v p c : Nat) : Bool := (T 0 (4 * i + v) == 0 || T 0 (4 * i + v) == p) && (decide (tmof T c p < 4) && (decide (v < 3) || (T 2 i == 0 || T 2 i == tmof T c p + 1)))
theorem nC_eq {n p : Nat} (hn : n < 2 ^ 31) (hp : p < 2 ^ 31) (h0 : ¬ n = 0) : (nC n = nI p) = (n = p) := by
  rw [nC_ne h0, nn_eq hn hp]
theorem nmo_neg {n : Nat} : nmo n < 0 ↔ ¬ n < 4 := by
  unfold nmo
  by_cases h : n < 4
  · rw [if_pos h]; exact ⟨fun q => absurd q (nI_pos (by omega)), fun q => absurd h q⟩
  · rw [if_neg h]; exact ⟨fun _ => h, fun _ => by decide⟩
theorem nmo_k {n k : Nat} (hk : k < 4) : nmo n = nI k ↔ n = k := by
  unfold nmo
  by_cases h : n < 4
  · rw [if_pos h, nn_eq (by omega) (by omega)]
  · rw [if_neg h]; exact ⟨fun q => absurd q.symm (nI_m1 (by omega)), fun q => by omega⟩
theorem nD_mo {a n : Nat} (ha : a ≤ 4) (h0 : ¬ a = 0) (hn : n < 4) : nD a = nmo n ↔ a = n + 1 := by
  unfold nD nmo
  rw [if_neg h0, if_pos hn, nn_eq (by omega) (by omega)]; omega
theorem e10_mayHave (l : Launch) (z : st_T) (T : tT) (hW : TW T) (hM : RM z T) {i v p c : Nat} (hi : i < 16) (hv : v < 4) (hp : p < 2 ^ 30) (hc : c < 13) : ri_Ev l y10_mayHave w10_mayHave r10_mayHave 0 0 [.ref 117, .int (nI i), .int (nI v), .int (nI p), .int (nI c)] (st_h z) (ri_is (zb (mhv T i v p c)) (st_h z)) := by
  refine ri_ev (t10_mayHave l _) rfl rfl rfl (Nat.le_of_ble_eq_true rfl) rfl (z10_mayHave l _) (fun J hJ => ?_)
  have e : 4 * nI i + nI v = nI (4 * i + v) := ix4d
  have ii : vp_in (4 * nI i + nI v) 64 := by rw [e]; exact vp_in_nI (by omega) (by decide)
  have ij : vp_in (nI i) 16 := vp_in_nI hi (by decide)
  have eg : z.2.1 106 (4 * nI i + nI v).toNatClampNeg = nC (T 0 (4 * i + v)) := by rw [e, cl31 (by omega)]; exact hM.2.1 _ (by omega)
  have ev : z.2.1 108 (nI i).toNatClampNeg = nD (T 2 i) := by rw [cl31 (by omega)]; exact (hM.2.2.1 _ hi).2.1
  have hg := hW.2.2.2.1 (4 * i + v) (by omega)
  have h2 := (hW.2.2.2.2.1 i hi).2.1
  have ht := tmof_le T c p
  have k20 : (T 0 (4 * i + v) == 0 || T 0 (4 * i + v) == p) = true → J 20 0 0 [some (.ref 117), some (.int (nI i)), some (.int (nI v)), some (.int (nI p)), some (.int (nI c)), some (.int (z.2.1 106 (4 * nI i + nI v).toNatClampNeg)), some (.int (nmo (tmof T c p)))] [] (st_h z) := by
    intro hb
    refine ri_go hJ [] 90 20 rfl ?_
    refine ⟨fun q => ⟨rfl, ?_, rfl⟩, fun q => ⟨fun q2 => ⟨rfl, ?_, rfl⟩, fun q2 => ⟨ij, fun q3 => ⟨rfl, ?_, rfl⟩, fun q3 => ⟨ij, fun q4 => ⟨rfl, ?_, rfl⟩, fun q4 => ⟨rfl, ?_, rfl⟩⟩⟩⟩⟩
    · have q := nmo_neg.mp q
      unfold mhv
      rw [hb, decide_eq_false q]; rfl
    · have q := Decidable.not_not.mp (fun z => q (nmo_neg.mpr z))
      have q2 : nI v < nI 3 := q2
      rw [nn_lt (by omega) (by decide)] at q2
      unfold mhv
      rw [hb, decide_eq_true q, decide_eq_true q2]; rfl
    · have q := Decidable.not_not.mp (fun z => q (nmo_neg.mpr z))
      have q3 : z.2.1 108 (nI i).toNatClampNeg = -2 := q3
      rw [ev, nD_none (by omega)] at q3
      unfold mhv
      rw [hb, decide_eq_true q, q3]; simp; rfl
    · have q := Decidable.not_not.mp (fun z => q (nmo_neg.mpr z))
      have q2 : ¬ nI v < nI 3 := q2
      rw [nn_lt (by omega) (by decide)] at q2
      have q3 : ¬ z.2.1 108 (nI i).toNatClampNeg = -2 := q3
      rw [ev, nD_none (by omega)] at q3
      have q4 : ¬ z.2.1 108 (nI i).toNatClampNeg = nmo (tmof T c p) := q4
      rw [ev, nD_mo h2 q3 q] at q4
      unfold mhv
      rw [hb, decide_eq_true q, decide_eq_false q2, ne_b q3, ne_b q4]; rfl
    · have q := Decidable.not_not.mp (fun z => q (nmo_neg.mpr z))
      have q3 : ¬ z.2.1 108 (nI i).toNatClampNeg = -2 := q3
      rw [ev, nD_none (by omega)] at q3
      have q4 : z.2.1 108 (nI i).toNatClampNeg = nmo (tmof T c p) := Decidable.not_not.mp q4
      rw [ev, nD_mo h2 q3 q] at q4
      unfold mhv
      rw [hb, decide_eq_true q, eq_b q4]; simp; rfl
  refine ri_run_ok hJ [20] 90 0 0 0 _ _ _ ?_
  refine ⟨ii, _, e10_memberOf l z T hW hM hc hp, ?_⟩
  rintro r h' ⟨rfl, rfl⟩
  refine ⟨fun q => k20 ?_, fun q => ⟨fun q2 => ⟨rfl, ?_, rfl⟩, fun q2 => k20 ?_⟩⟩
  · have q : z.2.1 106 (4 * nI i + nI v).toNatClampNeg = -2 := q
    rw [eg, nC_none (by omega)] at q
    rw [q]; rfl
  · have q : ¬ z.2.1 106 (4 * nI i + nI v).toNatClampNeg = -2 := q
    rw [eg, nC_none (by omega)] at q
    have q2 : ¬ z.2.1 106 (4 * nI i + nI v).toNatClampNeg = nI p := q2
    rw [eg, nC_eq (by omega) (by omega) q] at q2
    unfold mhv
    rw [ne_b q, ne_b q2]; rfl
  · have q : ¬ z.2.1 106 (4 * nI i + nI v).toNatClampNeg = -2 := q
    rw [eg, nC_none (by omega)] at q
    have q2 : z.2.1 106 (4 * nI i + nI v).toNatClampNeg = nI p := Decidable.not_not.mp q2
    rw [eg, nC_eq (by omega) (by omega) q] at q2
    rw [eq_b q2]; simp
/-- what a state breaks -/
def BX (T : tT) (i c : Nat) (p : Nat → Nat) (x : Int32) : Prop := ∃ b3 b4 b5 b6 : Bool, x = r36 b3 b4 b5 b6 ∧ (b3 = true ↔ bk3 p) ∧ (b4 = true ↔ bk4 T c p) ∧ (b5 = true ↔ bk5 T c p) ∧ (b6 = true ↔ bk6 T i c p)
/-- now holds the pitches -/
def NW (z : st_T) (p : Nat → Nat) : Prop := ∀ v, v < 4 → z.2.1 127 v = nI (p v)
theorem i_or0 (x : Int32) : x ||| 0 = x := by
  apply Int32.toBitVec_inj.mp
  simp
theorem dgo_11 {T : tT} (h0 : T 8 0 < 12) (p : Nat) : dgo T p = 11 ↔ p % 12 = ldc T := by
  unfold dgo ldc
  omega
theorem dcn4_0 (f : Nat → Bool) : dcn f 4 = 0 ↔ ∀ v, v < 4 → f v = false := by
  constructor
  · intro h v hv
    cases e : f v with
    | false => rfl
    | true =>
      have h1 : dcn f 4 = 0 := h
      have : 0 < dcn f 4 := by
        have hm : dcn (fun u => u == v) 4 ≤ dcn f 4 := dcn_mono (fun u hu q => by
          have : u = v := by simpa using q
          rw [this]; exact e)
        have h4 : ∀ v, v < 4 → dcn (fun u => u == v) 4 = 1 := by decide
        rw [h4 v hv] at hm; omega
      omega
  · intro h
    have h1 : dcn f 4 = dcn (fun _ => false) 4 := dcn_cong (fun v hv => h v hv)
    rw [h1]; rfl
/-- counts go up by one or stay -/
theorem dcn_st (f : Nat → Bool) (n : Nat) : nI (dcn f (n + 1)) = nI (dcn f n) + zb (f n) := by
  cases e : f n with
  | true => rw [dcn_1 e]; exact (nI_1 _).symm
  | false => rw [dcn_0 e]; exact (nI_add _ 0).symm
set_option maxHeartbeats 2000000 in
theorem e10_barsState (l : Launch) (z : st_T) (T : tT) (hW : TW T) (hM : RM z T) {i c : Nat} {p : Nat → Nat} (hi : i < T 8 2) (hc : c < 13) (hN : NW z p) (hp : ∀ v, v < 4 → p v < 2 ^ 20) : ri_Ev l y10_barsState w10_barsState r10_barsState 0 0 [.ref 117, .int (nI i), .int (nI c)] (st_h z) (fun r h' => ∃ x, r = some (.int x) ∧ h' = st_h z ∧ BX T i c p x) := by
  refine ri_ev (t10_barsState l _) rfl rfl rfl (Nat.le_of_ble_eq_true rfl) rfl (z10_barsState l _) (fun J hJ => ?_)
  have hn := hW.1
  have h0 := hW.2.1
  have h11 := hW.2.2.1
  have hp0 := hp 0 (by decide)
  have hp1 := hp 1 (by decide)
  have hp2 := hp 2 (by decide)
  have hp3 := hp 3 (by decide)
  have i0 : vp_in 0 4 := vp_in_nI (n := 0) (by decide) (by decide)
  have i1 : vp_in 1 4 := vp_in_nI (n := 1) (by decide) (by decide)
  have i2 : vp_in 2 4 := vp_in_nI (n := 2) (by decide) (by decide)
  have i3 : vp_in 3 4 := vp_in_nI (n := 3) (by decide) (by decide)
  have n0 : z.2.1 127 (0 : Int32).toNatClampNeg = nI (p 0) := hN 0 (by decide)
  have n1 : z.2.1 127 (1 : Int32).toNatClampNeg = nI (p 1) := hN 1 (by decide)
  have n2 : z.2.1 127 (2 : Int32).toNatClampNeg = nI (p 2) := hN 2 (by decide)
  have n3 : z.2.1 127 (3 : Int32).toNatClampNeg = nI (p 3) := hN 3 (by decide)
  -- the sixth rule, from the flags
  have k218 : ∀ (b3 b4 b5 la he : Bool), (b3 = true ↔ bk3 p) → (b4 = true ↔ bk4 T c p) → (b5 = true ↔ bk5 T c p) → (la = true ↔ (lastP T i = true ∧ (¬ c = 0 ∨ ¬ tmof T c (p 3) = 0))) → (he = true ↔ (T 3 i = 1 ∧ frm3 c = false)) → ∀ o4 o5 o6 o7 o8 o9, J 218 0 0 [some (.ref 117), some (.int (nI i)), some (.int (nI c)), some (.int ((bit b3 8 ||| bit b4 16) ||| bit b5 32)), o4, o5, o6, o7, o8, o9, some (.int (zb la)), some (.int (zb he))] [] (st_h z) := by
    intro b3 b4 b5 la he h3 h4 h5 hla hhe o4 o5 o6 o7 o8 o9
    refine ri_go hJ [] 90 218 rfl ?_
    refine ⟨fun q => ?_, fun q => ⟨fun q2 => ?_, fun q2 => ?_⟩⟩
    · refine ⟨_, rfl, rfl, b3, b4, b5, true, rfl, h3, h4, h5, ⟨fun _ => Or.inr (hla.mp (zb_1.mp q)), fun _ => rfl⟩⟩
    · have q := zb_0.mp (Decidable.not_not.mp q)
      have q2 := zb_0.mp q2
      refine ⟨_, rfl, rfl, b3, b4, b5, false, (i_or0 _).symm, h3, h4, h5, ⟨fun q => (by cases q), fun h => ?_⟩⟩
      rcases h with h | h
      · rw [hhe.mpr h] at q2; cases q2
      · rw [hla.mpr h] at q; cases q
    · refine ⟨_, rfl, rfl, b3, b4, b5, true, rfl, h3, h4, h5, ⟨fun _ => Or.inl (hhe.mp (zb_1.mp q2)), fun _ => rfl⟩⟩
  have h3i := (hW.2.2.2.2.1 i (by omega)).2.2
  have ef : z.2.1 109 (nI i).toNatClampNeg = nI (T 3 i) := by rw [cl31 (by omega)]; exact (hM.2.2.1 i (by omega)).2.2
  have cn : ∀ k, k < 13 → ((nI c = nI k) = (c = k)) := fun k hk => nn_eq (by omega) (by omega)
  have k201 : ∀ (b3 b4 b5 la : Bool), (b3 = true ↔ bk3 p) → (b4 = true ↔ bk4 T c p) → (b5 = true ↔ bk5 T c p) → (la = true ↔ (lastP T i = true ∧ (¬ c = 0 ∨ ¬ tmof T c (p 3) = 0))) → ∀ o4 o5 o6 o7 o8 o9 o11, J 201 0 0 [some (.ref 117), some (.int (nI i)), some (.int (nI c)), some (.int ((bit b3 8 ||| bit b4 16) ||| bit b5 32)), o4, o5, o6, o7, o8, o9, some (.int (zb la)), o11] [] (st_h z) := by
    intro b3 b4 b5 la h3 h4 h5 hla o4 o5 o6 o7 o8 o9 o11
    refine ri_go hJ [218] 90 201 rfl ?_
    refine ⟨vp_in_nI (by omega) (by decide), fun q => k218 b3 b4 b5 la false h3 h4 h5 hla ?_ _ _ _ _ _ _, fun q => ⟨fun q2 => k218 b3 b4 b5 la false h3 h4 h5 hla ?_ _ _ _ _ _ _, fun q2 => ⟨fun q3 => k218 b3 b4 b5 la false h3 h4 h5 hla ?_ _ _ _ _ _ _, fun q3 => ⟨fun q4 => k218 b3 b4 b5 la false h3 h4 h5 hla ?_ _ _ _ _ _ _, fun q4 => k218 b3 b4 b5 la true h3 h4 h5 hla ?_ _ _ _ _ _ _⟩⟩⟩⟩
    · have q : z.2.1 109 (nI i).toNatClampNeg = 0 := q
      rw [ef, nk_eq (k := 0) (b := 0) rfl (by omega) (by decide)] at q
      exact ⟨fun h => (by cases h), fun h => by have := h.1; omega⟩
    · have q2 : nI c = nI 0 := q2
      rw [cn 0 (by decide)] at q2
      exact ⟨fun h => (by cases h), fun h => by have := h.2; rw [q2] at this; cases this⟩
    · have q3 : nI c = nI 4 := q3
      rw [cn 4 (by decide)] at q3
      exact ⟨fun h => (by cases h), fun h => by have := h.2; rw [q3] at this; cases this⟩
    · have q4 : nI c = nI 5 := q4
      rw [cn 5 (by decide)] at q4
      exact ⟨fun h => (by cases h), fun h => by have := h.2; rw [q4] at this; cases this⟩
    · have q : ¬ z.2.1 109 (nI i).toNatClampNeg = 0 := q
      rw [ef, nk_eq (k := 0) (b := 0) rfl (by omega) (by decide)] at q
      have q2 : ¬ nI c = nI 0 := q2
      have q3 : ¬ nI c = nI 4 := q3
      have q4 : ¬ nI c = nI 5 := q4
      rw [cn 0 (by decide)] at q2
      rw [cn 4 (by decide)] at q3
      rw [cn 5 (by decide)] at q4
      refine ⟨fun _ => ⟨by omega, ?_⟩, fun _ => rfl⟩
      unfold frm3
      rw [ne_b q2, ne_b q3, ne_b q4]; rfl
  have el : (nI i = z.1 101 7 - 1) ↔ lastP T i = true := by
    rw [hM.1.2.2, nI_sub1 hn.1, nn_eq (by omega) (by omega)]
    unfold lastP
    constructor
    · intro h; exact eq_b (by omega)
    · intro h; have : i + 1 = T 8 2 := by simpa using h
      omega
  have k181 : ∀ (b3 b4 b5 : Bool), (b3 = true ↔ bk3 p) → (b4 = true ↔ bk4 T c p) → (b5 = true ↔ bk5 T c p) → ∀ o4 o5 o6 o7 o8 o9 o10 o11, J 181 0 0 [some (.ref 117), some (.int (nI i)), some (.int (nI c)), some (.int ((bit b3 8 ||| bit b4 16) ||| bit b5 32)), o4, o5, o6, o7, o8, o9, o10, o11] [] (st_h z) := by
    intro b3 b4 b5 h3 h4 h5 o4 o5 o6 o7 o8 o9 o10 o11
    have em := e10_memberOf l z T hW hM (c := c) (p := p 3) hc (by omega)
    rw [← n3] at em
    refine ri_go hJ [201] 90 181 rfl ?_
    refine ⟨fun q => k201 b3 b4 b5 false h3 h4 h5 ?_ _ _ _ _ _ _ _, fun q => ⟨fun q2 => k201 b3 b4 b5 true h3 h4 h5 ?_ _ _ _ _ _ _ _, fun q2 => ⟨i3, _, em, ?_⟩⟩⟩
    · have q : ¬ nI i = z.1 101 7 - 1 := q
      exact ⟨fun h => (by cases h), fun h => absurd (el.mpr h.1) q⟩
    · have q : nI i = z.1 101 7 - 1 := Decidable.not_not.mp q
      have q2 : ¬ nI c = nI 0 := q2
      rw [cn 0 (by decide)] at q2
      exact ⟨fun _ => ⟨el.mp q, Or.inl q2⟩, fun _ => rfl⟩
    · rintro r h' ⟨rfl, rfl⟩
      have q : nI i = z.1 101 7 - 1 := Decidable.not_not.mp q
      have q2 : nI c = nI 0 := Decidable.not_not.mp q2
      rw [cn 0 (by decide)] at q2
      refine ⟨fun q3 => k201 b3 b4 b5 false h3 h4 h5 ?_ _ _ _ _ _ _ _, fun q3 => k201 b3 b4 b5 true h3 h4 h5 ?_ _ _ _ _ _ _ _⟩
      · have q3 : nmo (tmof T c (p 3)) = nI 0 := q3
        rw [nmo_k (by decide)] at q3
        exact ⟨fun h => (by cases h), fun h => h.2.elim (fun h => absurd q2 h) (fun h => absurd q3 h)⟩
      · have q3 : ¬ nmo (tmof T c (p 3)) = nI 0 := q3
        rw [nmo_k (by decide)] at q3
        exact ⟨fun _ => ⟨el.mp q, Or.inr q3⟩, fun _ => rfl⟩
  have d3 := dcn_le (fun v => tmof T c (p v) == 3) 4
  have dl := dcn_le (fun v => p v % 12 == ldc T) 4
  have k169 : ∀ (b3 b4 ld : Bool), (b3 = true ↔ bk3 p) → (b4 = true ↔ bk4 T c p) → ld = gl T c → ∀ o4 o5 o6 o10 o11, J 169 0 0 [some (.ref 117), some (.int (nI i)), some (.int (nI c)), some (.int (bit b3 8 ||| bit b4 16)), o4, o5, o6, some (.int (nI (dcn (fun v => tmof T c (p v) == 3) 4))), some (.int (nI (dcn (fun v => p v % 12 == ldc T) 4))), some (.int (zb ld)), o10, o11] [] (st_h z) := by
    intro b3 b4 ld h3 h4 hld o4 o5 o6 o10 o11
    have kN : ¬ bk5 T c p → J 181 0 0 [some (.ref 117), some (.int (nI i)), some (.int (nI c)), some (.int (bit b3 8 ||| bit b4 16)), o4, o5, o6, some (.int (nI (dcn (fun v => tmof T c (p v) == 3) 4))), some (.int (nI (dcn (fun v => p v % 12 == ldc T) 4))), some (.int (zb ld)), o10, o11] [] (st_h z) := by
      intro hb
      have := k181 b3 b4 false h3 h4 ⟨fun h => (by cases h), fun h => absurd h hb⟩ o4 o5 o6 (some (.int (nI (dcn (fun v => tmof T c (p v) == 3) 4)))) (some (.int (nI (dcn (fun v => p v % 12 == ldc T) 4)))) (some (.int (zb ld))) o10 o11
      rw [show (bit b3 8 ||| bit b4 16) ||| bit false 32 = bit b3 8 ||| bit b4 16 from i_or0 _] at this
      exact this
    have kY : bk5 T c p → J 181 0 0 [some (.ref 117), some (.int (nI i)), some (.int (nI c)), some (.int ((bit b3 8 ||| bit b4 16) ||| 32)), o4, o5, o6, some (.int (nI (dcn (fun v => tmof T c (p v) == 3) 4))), some (.int (nI (dcn (fun v => p v % 12 == ldc T) 4))), some (.int (zb ld)), o10, o11] [] (st_h z) := fun hb => k181 b3 b4 true h3 h4 ⟨fun _ => hb, fun _ => rfl⟩ _ _ _ _ _ _ _ _
    have k174 : ¬ (gl T c = true ∧ 2 ≤ dcn (fun v => p v % 12 == ldc T) 4) → J 174 0 0 [some (.ref 117), some (.int (nI i)), some (.int (nI c)), some (.int (bit b3 8 ||| bit b4 16)), o4, o5, o6, some (.int (nI (dcn (fun v => tmof T c (p v) == 3) 4))), some (.int (nI (dcn (fun v => p v % 12 == ldc T) 4))), some (.int (zb ld)), o10, o11] [] (st_h z) := by
      intro hno
      refine ri_go hJ [181] 90 174 rfl ?_
      refine ⟨fun q => kN ?_, fun q => kY ?_⟩
      · have q : nI (dcn (fun v => tmof T c (p v) == 3) 4) ≤ nI 1 := q
        rw [nn_le (by omega) (by decide)] at q
        rintro (h | h)
        · omega
        · exact hno h
      · have q : ¬ nI (dcn (fun v => tmof T c (p v) == 3) 4) ≤ nI 1 := q
        rw [nn_le (by omega) (by decide)] at q
        exact Or.inl (by omega)
    refine ri_go hJ [174, 181] 90 169 rfl ?_
    refine ⟨fun q => k174 ?_, fun q => ⟨fun q2 => kY ?_, fun q2 => k174 ?_⟩⟩
    · have q := zb_0.mp q
      rw [hld] at q
      rw [q]; exact fun h => by cases h.1
    · have q := zb_1.mp q
      rw [hld] at q
      have q2 : nI 1 < nI (dcn (fun v => p v % 12 == ldc T) 4) := q2
      rw [nn_lt (by decide) (by omega)] at q2
      exact Or.inr ⟨q, by omega⟩
    · have q2 : ¬ nI 1 < nI (dcn (fun v => p v % 12 == ldc T) 4) := q2
      rw [nn_lt (by decide) (by omega)] at q2
      exact fun h => by have := h.2; omega
  have k150 : ∀ (b3 b4 : Bool), (b3 = true ↔ bk3 p) → (b4 = true ↔ bk4 T c p) → ∀ o4 o5 o6 o9 o10 o11, J 150 0 0 [some (.ref 117), some (.int (nI i)), some (.int (nI c)), some (.int (bit b3 8 ||| bit b4 16)), o4, o5, o6, some (.int (nI (dcn (fun v => tmof T c (p v) == 3) 4))), some (.int (nI (dcn (fun v => p v % 12 == ldc T) 4))), o9, o10, o11] [] (st_h z) := by
    intro b3 b4 h3 h4 o4 o5 o6 o9 o10 o11
    refine ri_go hJ [169] 90 150 rfl ?_
    refine ⟨fun q => k169 b3 b4 true h3 h4 ?_ _ _ _ _ _, fun q => ⟨fun q2 => k169 b3 b4 true h3 h4 ?_ _ _ _ _ _, fun q2 => ⟨fun q3 => k169 b3 b4 true h3 h4 ?_ _ _ _ _ _, fun q3 => ⟨fun q4 => k169 b3 b4 false h3 h4 ?_ _ _ _ _ _, fun q4 => ⟨fun q5 => k169 b3 b4 false h3 h4 ?_ _ _ _ _ _, fun q5 => k169 b3 b4 true h3 h4 ?_ _ _ _ _ _⟩⟩⟩⟩⟩
    · have q : nI c = nI 4 := q
      rw [cn 4 (by decide)] at q
      unfold gl; rw [q]; rfl
    · have q2 : nI c = nI 6 := q2
      rw [cn 6 (by decide)] at q2
      unfold gl; rw [q2]; rfl
    · have q3 : nI c = nI 7 := q3
      rw [cn 7 (by decide)] at q3
      unfold gl; rw [q3]; rfl
    · have q : ¬ nI c = nI 4 := q
      have q2 : ¬ nI c = nI 6 := q2
      have q3 : ¬ nI c = nI 7 := q3
      have q4 : ¬ nI c = nI 2 := q4
      rw [cn 4 (by decide)] at q
      rw [cn 6 (by decide)] at q2
      rw [cn 7 (by decide)] at q3
      rw [cn 2 (by decide)] at q4
      unfold gl; rw [ne_b q, ne_b q2, ne_b q3, ne_b q4]; rfl
    · have q4 : nI c = nI 2 := Decidable.not_not.mp q4
      rw [cn 2 (by decide)] at q4
      have q5 : ¬ z.1 101 6 = 0 := q5
      rw [hM.1.2.1, nk_eq (k := 0) (b := 0) rfl (by omega) (by decide)] at q5
      unfold gl; rw [q4, ne_b q5]; rfl
    · have q4 : nI c = nI 2 := Decidable.not_not.mp q4
      rw [cn 2 (by decide)] at q4
      have q5 : z.1 101 6 = 0 := Decidable.not_not.mp q5
      rw [hM.1.2.1, nk_eq (k := 0) (b := 0) rfl (by omega) (by decide)] at q5
      unfold gl; rw [q4, q5]; rfl
  have d0 := dcn_le (fun v => tmof T c (p v) == 0) 4
  have d1 := dcn_le (fun v => tmof T c (p v) == 1) 4
  have dz : ∀ k, dcn (fun v => tmof T c (p v) == k) 4 = 0 ↔ ∀ v, v < 4 → ¬ tmof T c (p v) = k := by
    intro k
    rw [dcn4_0]
    exact ⟨fun h v hv q => (by have := h v hv; rw [eq_b q] at this; cases this), fun h v hv => ne_b (h v hv)⟩
  have k135 : ∀ b3 : Bool, (b3 = true ↔ bk3 p) → ∀ o4 o9 o10 o11, J 135 0 0 [some (.ref 117), some (.int (nI i)), some (.int (nI c)), some (.int (bit b3 8)), o4, some (.int (nI (dcn (fun v => tmof T c (p v) == 0) 4))), some (.int (nI (dcn (fun v => tmof T c (p v) == 1) 4))), some (.int (nI (dcn (fun v => tmof T c (p v) == 3) 4))), some (.int (nI (dcn (fun v => p v % 12 == ldc T) 4))), o9, o10, o11] [] (st_h z) := by
    intro b3 h3 o4 o9 o10 o11
    have kN : ¬ bk4 T c p → J 150 0 0 [some (.ref 117), some (.int (nI i)), some (.int (nI c)), some (.int (bit b3 8)), o4, some (.int (nI (dcn (fun v => tmof T c (p v) == 0) 4))), some (.int (nI (dcn (fun v => tmof T c (p v) == 1) 4))), some (.int (nI (dcn (fun v => tmof T c (p v) == 3) 4))), some (.int (nI (dcn (fun v => p v % 12 == ldc T) 4))), o9, o10, o11] [] (st_h z) := by
      intro hb
      have := k150 b3 false h3 ⟨fun h => (by cases h), fun h => absurd h hb⟩ o4 (some (.int (nI (dcn (fun v => tmof T c (p v) == 0) 4)))) (some (.int (nI (dcn (fun v => tmof T c (p v) == 1) 4)))) o9 o10 o11
      rw [show bit b3 8 ||| bit false 16 = bit b3 8 from i_or0 _] at this
      exact this
    have kY : bk4 T c p → J 150 0 0 [some (.ref 117), some (.int (nI i)), some (.int (nI c)), some (.int (bit b3 8 ||| 16)), o4, some (.int (nI (dcn (fun v => tmof T c (p v) == 0) 4))), some (.int (nI (dcn (fun v => tmof T c (p v) == 1) 4))), some (.int (nI (dcn (fun v => tmof T c (p v) == 3) 4))), some (.int (nI (dcn (fun v => p v % 12 == ldc T) 4))), o9, o10, o11] [] (st_h z) := fun hb => k150 b3 true h3 ⟨fun _ => hb, fun _ => rfl⟩ _ _ _ _ _ _
    have e99 : tmem T c 3 = 99 ↔ tdeg T c 3 = 99 := by
      unfold tmem
      rcases tdeg_lt T c 3 with h | h
      · rw [if_pos h]; exact ⟨fun _ => h, fun _ => rfl⟩
      · rw [if_neg (by omega)]; omega
    refine ri_go hJ [150] 90 135 rfl ?_
    refine ⟨fun q => kY ?_, fun q => ⟨fun q2 => kY ?_, fun q2 => ⟨_, e10_degree l z T hW hM hc (k := 3) (by decide), ?_⟩⟩⟩
    · have q : nI (dcn (fun v => tmof T c (p v) == 0) 4) = nI 0 := q
      rw [nn_eq (by omega) (by decide), dz] at q
      exact Or.inl q
    · have q2 : nI (dcn (fun v => tmof T c (p v) == 1) 4) = nI 0 := q2
      rw [nn_eq (by omega) (by decide), dz] at q2
      exact Or.inr (Or.inl q2)
    · rintro r h' ⟨rfl, rfl⟩
      have q : ¬ nI (dcn (fun v => tmof T c (p v) == 0) 4) = nI 0 := q
      rw [nn_eq (by omega) (by decide), dz] at q
      have q2 : ¬ nI (dcn (fun v => tmof T c (p v) == 1) 4) = nI 0 := q2
      rw [nn_eq (by omega) (by decide), dz] at q2
      refine ⟨fun q3 => kN ?_, fun q3 => ⟨fun q4 => kN ?_, fun q4 => kY ?_⟩⟩
      · have q3 : nM (tdeg T c 3) < 0 := q3
        have h99 : tdeg T c 3 = 99 := by
          rcases tdeg_lt T c 3 with h | h
          · exact h
          · unfold nM at q3
            rw [if_neg (by omega)] at q3
            exact absurd q3 (nI_pos (by omega))
        rintro (h | h | h)
        · exact q h
        · exact q2 h
        · exact h.1 (e99.mpr h99)
      · have q4 : ¬ nI (dcn (fun v => tmof T c (p v) == 3) 4) = nI 0 := q4
        rw [nn_eq (by omega) (by decide), dz] at q4
        rintro (h | h | h)
        · exact q h
        · exact q2 h
        · exact q4 h.2
      · have q3 : ¬ nM (tdeg T c 3) < 0 := q3
        have h99 : ¬ tdeg T c 3 = 99 := fun e => q3 (by rw [e]; decide)
        have q4 : nI (dcn (fun v => tmof T c (p v) == 3) 4) = nI 0 := Decidable.not_not.mp q4
        rw [nn_eq (by omega) (by decide), dz] at q4
        exact Or.inr (Or.inr ⟨fun e => h99 (e99.mp e), q4⟩)
  -- the voices
  have k82 : ∀ b3 : Bool, (b3 = true ↔ bk3 p) → ∀ n v, n + v = 4 → ∀ o4 o10 o11, J 82 0 0 [some (.ref 117), some (.int (nI i)), some (.int (nI c)), some (.int (bit b3 8)), o4, some (.int (nI (dcn (fun v => tmof T c (p v) == 0) v))), some (.int (nI (dcn (fun v => tmof T c (p v) == 1) v))), some (.int (nI (dcn (fun v => tmof T c (p v) == 3) v))), some (.int (nI (dcn (fun v => p v % 12 == ldc T) v))), some (.int (nI v)), o10, o11] [] (st_h z) := by
    intro b3 h3 n
    induction n with
    | zero =>
      intro v hv o4 o10 o11
      have hv4 : v = 4 := by omega
      subst hv4
      refine ri_go hJ [135] 90 82 rfl ?_
      exact ⟨fun _ => k135 b3 h3 _ _ _ _, fun c => absurd (by decide) c⟩
    | succ n ih =>
      intro v hv o4 o10 o11
      have e1 := nI_1 v
      have iv : vp_in (nI v) 4 := vp_in_nI (by omega) (by decide)
      have nv : z.2.1 127 (nI v).toNatClampNeg = nI (p v) := by rw [cl31 (by omega)]; exact hN v (by omega)
      have hpv := hp v (by omega)
      have em := e10_memberOf l z T hW hM (c := c) (p := p v) hc (by omega)
      rw [← nv] at em
      have eg := e10_degreeOf l z T hW hM (p := p v) (by omega)
      rw [← nv] at eg
      have step : ∀ (b0 b1 b3' bl : Bool), b0 = (tmof T c (p v) == 0) → b1 = (tmof T c (p v) == 1) → b3' = (tmof T c (p v) == 3) → bl = (p v % 12 == ldc T) → J 82 0 0 [some (.ref 117), some (.int (nI i)), some (.int (nI c)), some (.int (bit b3 8)), o4, some (.int (nI (dcn (fun v => tmof T c (p v) == 0) v) + zb b0)), some (.int (nI (dcn (fun v => tmof T c (p v) == 1) v) + zb b1)), some (.int (nI (dcn (fun v => tmof T c (p v) == 3) v) + zb b3')), some (.int (nI (dcn (fun v => p v % 12 == ldc T) v) + zb bl)), some (.int (nI v + 1)), some (.int (nmo (tmof T c (p v)))), o11] [] (st_h z) := by
        intro b0 b1 b3' bl q0 q1 q3 ql
        have := ih (v + 1) (by omega) o4 (some (.int (nmo (tmof T c (p v))))) o11
        rw [dcn_st, dcn_st, dcn_st, dcn_st, ← e1] at this
        rw [q0, q1, q3, ql]
        exact this
      have k119 : ∀ (b0 b1 b3' : Bool), b0 = (tmof T c (p v) == 0) → b1 = (tmof T c (p v) == 1) → b3' = (tmof T c (p v) == 3) → J 119 0 0 [some (.ref 117), some (.int (nI i)), some (.int (nI c)), some (.int (bit b3 8)), o4, some (.int (nI (dcn (fun v => tmof T c (p v) == 0) v) + zb b0)), some (.int (nI (dcn (fun v => tmof T c (p v) == 1) v) + zb b1)), some (.int (nI (dcn (fun v => tmof T c (p v) == 3) v) + zb b3')), some (.int (nI (dcn (fun v => p v % 12 == ldc T) v))), some (.int (nI v)), some (.int (nmo (tmof T c (p v)))), o11] [] (st_h z) := by
        intro b0 b1 b3' q0 q1 q3
        refine ri_go hJ [82] 90 119 rfl ?_
        refine ⟨iv, _, eg, ?_⟩
        rintro r h' ⟨rfl, rfl⟩
        have hdl := dgo_lt T (p v)
        refine ⟨fun q => step b0 b1 b3' false q0 q1 q3 ?_, fun q => step b0 b1 b3' true q0 q1 q3 ?_⟩
        · have q : ¬ nI (dgo T (p v)) = nI 11 := q
          rw [nn_eq (by omega) (by decide), dgo_11 h0] at q
          exact (ne_b q).symm
        · have q : nI (dgo T (p v)) = nI 11 := Decidable.not_not.mp q
          rw [nn_eq (by omega) (by decide), dgo_11 h0] at q
          exact (eq_b q).symm
      have k110 : ∀ (b0 b1 : Bool), b0 = (tmof T c (p v) == 0) → b1 = (tmof T c (p v) == 1) → J 110 0 0 [some (.ref 117), some (.int (nI i)), some (.int (nI c)), some (.int (bit b3 8)), o4, some (.int (nI (dcn (fun v => tmof T c (p v) == 0) v) + zb b0)), some (.int (nI (dcn (fun v => tmof T c (p v) == 1) v) + zb b1)), some (.int (nI (dcn (fun v => tmof T c (p v) == 3) v))), some (.int (nI (dcn (fun v => p v % 12 == ldc T) v))), some (.int (nI v)), some (.int (nmo (tmof T c (p v)))), o11] [] (st_h z) := by
        intro b0 b1 q0 q1
        refine ri_go hJ [119] 90 110 rfl ?_
        refine ⟨fun q => k119 b0 b1 false q0 q1 ?_, fun q => k119 b0 b1 true q0 q1 ?_⟩
        · have q : ¬ nmo (tmof T c (p v)) = nI 3 := q
          rw [nmo_k (by decide)] at q
          exact (ne_b q).symm
        · have q : nmo (tmof T c (p v)) = nI 3 := Decidable.not_not.mp q
          rw [nmo_k (by decide)] at q
          exact (eq_b q).symm
      have k101 : ∀ b0 : Bool, b0 = (tmof T c (p v) == 0) → J 101 0 0 [some (.ref 117), some (.int (nI i)), some (.int (nI c)), some (.int (bit b3 8)), o4, some (.int (nI (dcn (fun v => tmof T c (p v) == 0) v) + zb b0)), some (.int (nI (dcn (fun v => tmof T c (p v) == 1) v))), some (.int (nI (dcn (fun v => tmof T c (p v) == 3) v))), some (.int (nI (dcn (fun v => p v % 12 == ldc T) v))), some (.int (nI v)), some (.int (nmo (tmof T c (p v)))), o11] [] (st_h z) := by
        intro b0 q0
        refine ri_go hJ [110] 90 101 rfl ?_
        refine ⟨fun q => k110 b0 false q0 ?_, fun q => k110 b0 true q0 ?_⟩
        · have q : ¬ nmo (tmof T c (p v)) = nI 1 := q
          rw [nmo_k (by decide)] at q
          exact (ne_b q).symm
        · have q : nmo (tmof T c (p v)) = nI 1 := Decidable.not_not.mp q
          rw [nmo_k (by decide)] at q
          exact (eq_b q).symm
      refine ri_go hJ [101] 90 82 rfl ?_
      refine ⟨fun c => absurd c (nI_ge (a := v) (b := 4) (by omega) (by decide)), fun _ => ⟨iv, _, em, ?_⟩⟩
      rintro r h' ⟨rfl, rfl⟩
      refine ⟨fun q => k101 false ?_, fun q => k101 true ?_⟩
      · have q : ¬ nmo (tmof T c (p v)) = nI 0 := q
        rw [nmo_k (by decide)] at q
        exact (ne_b q).symm
      · have q : nmo (tmof T c (p v)) = nI 0 := Decidable.not_not.mp q
        rw [nmo_k (by decide)] at q
        exact (eq_b q).symm
  -- the third rule
  have kF : ¬ bk3 p → J 65 0 0 [some (.ref 117), some (.int (nI i)), some (.int (nI c)), some (.int 0), none, none, none, none, none, none, none, none] [.int 1] (st_h z) := by
    intro hb
    refine ri_go hJ [82] 90 65 rfl ?_
    exact ⟨fun c => absurd c (by decide), fun _ => k82 false ⟨fun h => (by cases h), fun h => absurd h hb⟩ 4 0 rfl _ _ _⟩
  have kT : bk3 p → J 65 0 0 [some (.ref 117), some (.int (nI i)), some (.int (nI c)), some (.int 0), none, none, none, none, none, none, none, none] [.int 0] (st_h z) := by
    intro hb
    refine ri_go hJ [82] 90 65 rfl ?_
    exact ⟨fun _ => k82 true ⟨fun _ => hb, fun _ => rfl⟩ 4 0 rfl _ _ _, fun c => absurd rfl c⟩
  refine ri_run_ok hJ [65] 90 0 0 0 _ _ _ ?_
  refine ⟨i0, i1, fun q => kT ⟨0, by decide, Or.inl ?_⟩, fun q0 => ⟨i1, i2, fun q => kT ⟨1, by decide, Or.inl ?_⟩, fun q1 => ⟨i2, i3, fun q => kT ⟨2, by decide, Or.inl ?_⟩, fun q2 => ⟨i0, i1, fun q => kT ⟨0, by decide, Or.inr ?_⟩, fun q3 => ⟨i1, i2, fun q => kT ⟨1, by decide, Or.inr ?_⟩, fun q4 => ⟨i2, i3, fun q => kT ⟨2, by decide, Or.inr ?_⟩, fun q5 => kF ?_⟩⟩⟩⟩⟩⟩
  · have q : z.2.1 127 (0 : Int32).toNatClampNeg < z.2.1 127 (1 : Int32).toNatClampNeg := q
    rw [n0, n1, nn_lt (by omega) (by omega)] at q
    exact q
  · have q : z.2.1 127 (1 : Int32).toNatClampNeg < z.2.1 127 (2 : Int32).toNatClampNeg := q
    rw [n1, n2, nn_lt (by omega) (by omega)] at q
    exact q
  · have q : z.2.1 127 (2 : Int32).toNatClampNeg < z.2.1 127 (3 : Int32).toNatClampNeg := q
    rw [n2, n3, nn_lt (by omega) (by omega)] at q
    exact q
  all_goals
    have q0 : ¬ z.2.1 127 (0 : Int32).toNatClampNeg < z.2.1 127 (1 : Int32).toNatClampNeg := q0
    have q1 : ¬ z.2.1 127 (1 : Int32).toNatClampNeg < z.2.1 127 (2 : Int32).toNatClampNeg := q1
    have q2 : ¬ z.2.1 127 (2 : Int32).toNatClampNeg < z.2.1 127 (3 : Int32).toNatClampNeg := q2
    rw [n0, n1, nn_lt (by omega) (by omega)] at q0
    rw [n1, n2, nn_lt (by omega) (by omega)] at q1
    rw [n2, n3, nn_lt (by omega) (by omega)] at q2
  · have q : nI 12 < z.2.1 127 (0 : Int32).toNatClampNeg - z.2.1 127 (1 : Int32).toNatClampNeg := q
    rw [n0, n1, pk_sub (by omega), nn_lt (by decide) (by omega)] at q
    show p 1 + 12 < p 0
    omega
  · have q : nI 12 < z.2.1 127 (1 : Int32).toNatClampNeg - z.2.1 127 (2 : Int32).toNatClampNeg := q
    rw [n1, n2, pk_sub (by omega), nn_lt (by decide) (by omega)] at q
    show p 2 + 12 < p 1
    omega
  · have q : nI 19 < z.2.1 127 (2 : Int32).toNatClampNeg - z.2.1 127 (3 : Int32).toNatClampNeg := q
    rw [n2, n3, pk_sub (by omega), nn_lt (by decide) (by omega)] at q
    show p 3 + 19 < p 2
    omega
  · have q3 : ¬ nI 12 < z.2.1 127 (0 : Int32).toNatClampNeg - z.2.1 127 (1 : Int32).toNatClampNeg := q3
    rw [n0, n1, pk_sub (by omega), nn_lt (by decide) (by omega)] at q3
    have q4 : ¬ nI 12 < z.2.1 127 (1 : Int32).toNatClampNeg - z.2.1 127 (2 : Int32).toNatClampNeg := q4
    rw [n1, n2, pk_sub (by omega), nn_lt (by decide) (by omega)] at q4
    have q5 : ¬ nI 19 < z.2.1 127 (2 : Int32).toNatClampNeg - z.2.1 127 (3 : Int32).toNatClampNeg := q5
    rw [n2, n3, pk_sub (by omega), nn_lt (by decide) (by omega)] at q5
    rintro ⟨v, hv, h⟩
    match v, hv, h with
    | 0, _, h => have h : p 0 < p 1 ∨ p 1 + 12 < p 0 := h; omega
    | 1, _, h => have h : p 1 < p 2 ∨ p 2 + 12 < p 1 := h; omega
    | 2, _, h => have h : p 2 < p 3 ∨ p 3 + 19 < p 2 := h; omega
    | v + 3, hv, _ => exact absurd hv (by omega)
