/-! THE REFERENCE: what a state costs -/
theorem tdeg_inj (T : tT) : ∀ c, c < 13 → ∀ k, k < 4 → ∀ k', k' < 4 → ¬ tdeg T c k = 99 → tdeg T c k = tdeg T c k' → k = k' := by
  have hJ : ∀ c, c < 13 → ∀ k, k < 4 → ∀ k', k' < 4 → ¬ mJ.getD (4 * c + k) 99 = 99 → mJ.getD (4 * c + k) 99 = mJ.getD (4 * c + k') 99 → k = k' := by decide +kernel
  have hN : ∀ c, c < 13 → ∀ k, k < 4 → ∀ k', k' < 4 → ¬ mN.getD (4 * c + k) 99 = 99 → mN.getD (4 * c + k) 99 = mN.getD (4 * c + k') 99 → k = k' := by decide +kernel
  intro c hc k hk k' hk'
  unfold tdeg
  by_cases h : T 8 1 = 1
  · rw [if_pos h]; exact hN c hc k hk k' hk'
  · rw [if_neg h]; exact hJ c hc k hk k' hk'
theorem tmem_inj {T : tT} (h0 : T 8 0 < 12) {c k k' : Nat} (hc : c < 13) (hk : k < 4) (hk' : k' < 4) (hn : tmem T c k < 12) (h : tmem T c k = tmem T c k') : k = k' := by
  have d1 := tdeg_lt T c k
  have d2 := tdeg_lt T c k'
  have e1 : tdeg T c k < 12 := by
    rcases d1 with d | d
    · unfold tmem at hn; rw [if_pos d] at hn; omega
    · exact d
  have e2 : tdeg T c k' < 12 := by
    rcases d2 with d | d
    · rw [h] at hn; unfold tmem at hn; rw [if_pos d] at hn; omega
    · exact d
  unfold tmem at h
  rw [if_neg (by omega), if_neg (by omega)] at h
  exact tdeg_inj T c hc k hk k' hk' (by omega) (by omega)
theorem tmof_4 {T : tT} {c p : Nat} (h : ¬ tmof T c p < 4) : ∀ k, k < 4 → ¬ tmem T c k = p % 12 := by
  intro k hk q
  apply h
  unfold tmof
  by_cases h0 : tmem T c 0 = p % 12
  · rw [if_pos h0]; omega
  · rw [if_neg h0]
    by_cases h1 : tmem T c 1 = p % 12
    · rw [if_pos h1]; omega
    · rw [if_neg h1]
      by_cases h2 : tmem T c 2 = p % 12
      · rw [if_pos h2]; omega
      · rw [if_neg h2]
        by_cases h3 : tmem T c 3 = p % 12
        · rw [if_pos h3]; omega
        · match k, hk, q with
          | 0, _, q => exact absurd q h0
          | 1, _, q => exact absurd q h1
          | 2, _, q => exact absurd q h2
          | 3, _, q => exact absurd q h3
          | k + 4, hk, _ => exact absurd hk (by omega)
theorem tmof_iff {T : tT} (h0 : T 8 0 < 12) {c p k : Nat} (hc : c < 13) (hk : k < 4) : tmof T c p = k ↔ tmem T c k = p % 12 := by
  have hm : p % 12 < 12 := Nat.mod_lt _ (by decide)
  constructor
  · intro h
    have := tmof_mem (T := T) (c := c) (p := p) (by omega)
    rw [h] at this; exact this
  · intro h
    by_cases q : tmof T c p < 4
    · have := tmof_mem q
      exact tmem_inj h0 hc q hk (by omega) (by omega)
    · exact absurd h (tmof_4 q k hk)
theorem dcn4 (f : Nat → Bool) : dcn f 4 = (if f 3 = true then 1 else 0) + (if f 2 = true then 1 else 0) + (if f 1 = true then 1 else 0) + (if f 0 = true then 1 else 0) := by
  have s : ∀ n, dcn f (n + 1) = dcn f n + (if f n = true then 1 else 0) := by
    intro n
    cases e : f n with
    | true => rw [dcn_1 e]; rfl
    | false => rw [dcn_0 e]; rfl
  rw [s, s, s, s]
  show 0 + _ + _ + _ + _ = _
  omega
theorem cntm_dcn {T : tT} (h0 : T 8 0 < 12) {x k : Nat} (hc : chd x < 13) (hk : k < 4) (hn : ¬ tmem T (chd x) k = 99) : cntm T x k = dcn (fun v => tmof T (chd x) (pit x v) == k) 4 := by
  rw [cntm_c hn, dcn4]
  have e : ∀ v, (if (tmof T (chd x) (pit x v) == k) = true then 1 else 0) = (if pit x v % 12 = tmem T (chd x) k then 1 else 0) := by
    intro v
    have := tmof_iff h0 (p := pit x v) hc hk
    by_cases q : pit x v % 12 = tmem T (chd x) k
    · rw [if_pos q, if_pos (eq_b (this.mpr q.symm))]
    · rw [if_neg q, if_neg (by rw [ne_b (fun r => q (this.mp r).symm)]; decide)]
  rw [e, e, e, e]; rfl
theorem uniU_le (x : Nat) : ∀ v, uniU x v ≤ v
  | 0 => Nat.le_refl _
  | v + 1 => by
    have := uniU_le x v
    unfold uniU
    split <;> omega
set_option maxHeartbeats 2000000 in
theorem e10_costOfState (l : Launch) (z : st_T) (T : tT) (hW : TW T) (hM : RM z T) {x : Nat} (hc : chd x < 13) (hN : NW z (pit x)) : ri_Ev l y10_costOfState w10_costOfState r10_costOfState 0 0 [.ref 117, .int (nI (chd x))] (st_h z) (ri_is (nI (cst T x)) (st_h z)) := by
  refine ri_ev (t10_costOfState l _) rfl rfl rfl (Nat.le_of_ble_eq_true rfl) rfl (z10_costOfState l _) (fun J hJ => ?_)
  have h0 := hW.2.1
  have hp : ∀ v, pit x v < 100 := fun v => (pit_lt x v).1
  have c2 := cntm_dcn (T := T) (x := x) (k := 2) h0 hc (by decide) (by have := tmem_rt T (chd x) 2 hc (by decide); omega)
  have c1 := cntm_dcn (T := T) (x := x) (k := 1) h0 hc (by decide) (by have := tmem_rt T (chd x) 1 hc (by decide); omega)
  have d2 := dcn_le (fun v => tmof T (chd x) (pit x v) == 2) 4
  have d1 := dcn_le (fun v => tmof T (chd x) (pit x v) == 1) 4
  have hco := hM.2.2.2.2.1
  have w2 : z.2.1 111 (2 : Int32).toNatClampNeg = nI (T 5 2) := hco 2 (by decide)
  have w3 : z.2.1 111 (3 : Int32).toNatClampNeg = nI (T 5 3) := hco 3 (by decide)
  have w6 : z.2.1 111 (6 : Int32).toNatClampNeg = nI (T 5 6) := hco 6 (by decide)
  have w8 : z.2.1 111 (8 : Int32).toNatClampNeg = nI (T 5 8) := hco 8 (by decide)
  have j2 : vp_in 2 9 := vp_in_nI (n := 2) (by decide) (by decide)
  have j3 : vp_in 3 9 := vp_in_nI (n := 3) (by decide) (by decide)
  have j6 : vp_in 6 9 := vp_in_nI (n := 6) (by decide) (by decide)
  have j8 : vp_in 8 9 := vp_in_nI (n := 8) (by decide) (by decide)
  have i3 : vp_in 3 4 := vp_in_nI (n := 3) (by decide) (by decide)
  have n3 : z.2.1 127 (3 : Int32).toNatClampNeg = nI (pit x 3) := hN 3 (by decide)
  have cn : ∀ k, k < 13 → ((nI (chd x) = nI k) = (chd x = k)) := fun k hk => nn_eq (by omega) (by omega)
  -- the last summand
  have k104 : ∀ A : Nat, A = T 5 3 * iu (tmof T (chd x) (pit x 3)) + T 5 8 * uniU x 3 + (if cntm T x 2 = 0 then T 5 2 else 0) → ∀ o2 o5 o6, J 105 0 0 [some (.ref 117), some (.int (nI (chd x))), o2, some (.int (nI (dcn (fun v => tmof T (chd x) (pit x v) == 1) 4))), some (.int (nI A)), o5, o6] [] (st_h z) := by
    intro A hA o2 o5 o6
    have no : ¬ ((chd x = 0 ∨ chd x = 3 ∨ chd x = 4) ∧ 2 ≤ cntm T x 1) → some (Value.int (nI A + 0)) = some (Value.int (nI (cst T x))) := by
      intro h
      unfold cst
      rw [if_neg h, ← hA]
      exact congrArg (fun w => some (Value.int w)) (nI_add A 0)
    have yes : ((chd x = 0 ∨ chd x = 3 ∨ chd x = 4) ∧ 2 ≤ cntm T x 1) → some (Value.int (nI A + z.2.1 111 (6 : Int32).toNatClampNeg)) = some (Value.int (nI (cst T x))) := by
      intro h
      unfold cst
      rw [if_pos h, ← hA, w6, nI_add]
    refine ri_go hJ [] 90 105 rfl ?_
    refine ⟨fun q => ⟨no ?_, rfl⟩, fun q => ⟨fun q2 => ⟨j6, yes ?_, rfl⟩, fun q2 => ⟨fun q3 => ⟨j6, yes ?_, rfl⟩, fun q3 => ⟨fun q4 => ⟨no ?_, rfl⟩, fun q4 => ⟨j6, yes ?_, rfl⟩⟩⟩⟩⟩
    · have q : nI (dcn (fun v => tmof T (chd x) (pit x v) == 1) 4) ≤ nI 1 := q
      rw [nn_le (by omega) (by decide)] at q
      rw [c1]; omega
    · have q : ¬ nI (dcn (fun v => tmof T (chd x) (pit x v) == 1) 4) ≤ nI 1 := q
      rw [nn_le (by omega) (by decide)] at q
      have q2 : nI (chd x) = nI 0 := q2
      rw [cn 0 (by decide)] at q2
      exact ⟨Or.inl q2, by rw [c1]; omega⟩
    · have q : ¬ nI (dcn (fun v => tmof T (chd x) (pit x v) == 1) 4) ≤ nI 1 := q
      rw [nn_le (by omega) (by decide)] at q
      have q3 : nI (chd x) = nI 3 := q3
      rw [cn 3 (by decide)] at q3
      exact ⟨Or.inr (Or.inl q3), by rw [c1]; omega⟩
    · have q2 : ¬ nI (chd x) = nI 0 := q2
      have q3 : ¬ nI (chd x) = nI 3 := q3
      have q4 : ¬ nI (chd x) = nI 4 := q4
      rw [cn 0 (by decide)] at q2
      rw [cn 3 (by decide)] at q3
      rw [cn 4 (by decide)] at q4
      exact fun h => by have := h.1; omega
    · have q : ¬ nI (dcn (fun v => tmof T (chd x) (pit x v) == 1) 4) ≤ nI 1 := q
      rw [nn_le (by omega) (by decide)] at q
      have q4 : nI (chd x) = nI 4 := Decidable.not_not.mp q4
      rw [cn 4 (by decide)] at q4
      exact ⟨Or.inr (Or.inr q4), by rw [c1]; omega⟩
  -- the inversion
  have k102 : ∀ A U : Nat, A + T 5 3 * U = T 5 3 * iu (tmof T (chd x) (pit x 3)) + T 5 8 * uniU x 3 + (if cntm T x 2 = 0 then T 5 2 else 0) → ∀ u : Int32, u = nI U → ∀ o2 o4 o5 o6, J 102 0 0 [some (.ref 117), some (.int (nI (chd x))), o2, some (.int (nI (dcn (fun v => tmof T (chd x) (pit x v) == 1) 4))), o4, o5, o6] [.int u, .int (z.2.1 111 (3 : Int32).toNatClampNeg), .int (nI A)] (st_h z) := by
    intro A U hA u hu o2 o4 o5 o6
    have := k104 (A + T 5 3 * U) hA o2 o5 o6
    rw [← nI_add A, ← pk_mul, ← w3, ← hu] at this
    refine ri_go hJ [105] 90 102 rfl ?_
    exact this
  have ht := tmof_le T (chd x) (pit x 3)
  have k81 : ∀ A : Nat, A = T 5 8 * uniU x 3 + (if cntm T x 2 = 0 then T 5 2 else 0) → ∀ o2 o6, J 81 0 0 [some (.ref 117), some (.int (nI (chd x))), o2, some (.int (nI (dcn (fun v => tmof T (chd x) (pit x v) == 1) 4))), some (.int (nI A)), some (.int (nmo (tmof T (chd x) (pit x 3)))), o6] [] (st_h z) := by
    intro A hA o2 o6
    refine ri_go hJ [102] 90 81 rfl ?_
    refine ⟨j3, fun q => ⟨fun q2 => ⟨fun q3 => k102 A 0 ?_ 0 rfl _ _ _ _, fun q3 => k102 A 2 ?_ 2 rfl _ _ _ _⟩, fun q2 => k102 A 6 ?_ 6 rfl _ _ _ _⟩, fun q => k102 A 1 ?_ 1 rfl _ _ _ _⟩
    · have q : ¬ nmo (tmof T (chd x) (pit x 3)) = nI 1 := q
      have q2 : ¬ nmo (tmof T (chd x) (pit x 3)) = nI 2 := q2
      have q3 : ¬ nmo (tmof T (chd x) (pit x 3)) = nI 3 := q3
      rw [nmo_k (by decide)] at q q2 q3
      have : iu (tmof T (chd x) (pit x 3)) = 0 := by
        have h : ∀ t, t ≤ 4 → ¬ t = 1 → ¬ t = 2 → ¬ t = 3 → iu t = 0 := by decide
        exact h _ ht q q2 q3
      rw [this, hA]; omega
    · have q3 : nmo (tmof T (chd x) (pit x 3)) = nI 3 := Decidable.not_not.mp q3
      rw [nmo_k (by decide)] at q3
      rw [q3, hA]; show _ = T 5 3 * 2 + _ + _; omega
    · have q2 : nmo (tmof T (chd x) (pit x 3)) = nI 2 := Decidable.not_not.mp q2
      rw [nmo_k (by decide)] at q2
      rw [q2, hA]; show _ = T 5 3 * 6 + _ + _; omega
    · have q : nmo (tmof T (chd x) (pit x 3)) = nI 1 := Decidable.not_not.mp q
      rw [nmo_k (by decide)] at q
      rw [q, hA]; show _ = T 5 3 * 1 + _ + _; omega
  have k62 : ∀ o5 o6, J 62 0 0 [some (.ref 117), some (.int (nI (chd x))), some (.int (nI (dcn (fun v => tmof T (chd x) (pit x v) == 2) 4))), some (.int (nI (dcn (fun v => tmof T (chd x) (pit x v) == 1) 4))), some (.int (nI (T 5 8 * uniU x 3))), o5, o6] [] (st_h z) := by
    intro o5 o6
    have em := e10_memberOf l z T hW hM (c := chd x) (p := pit x 3) hc (by have := hp 3; omega)
    rw [← n3] at em
    refine ri_go hJ [81] 90 62 rfl ?_
    refine ⟨i3, _, em, ?_⟩
    rintro r h' ⟨rfl, rfl⟩
    refine ⟨fun q => ?_, fun q => ⟨j2, ?_⟩⟩
    · have q : ¬ nI (dcn (fun v => tmof T (chd x) (pit x v) == 2) 4) = nI 0 := q
      rw [nn_eq (by omega) (by decide), ← c2] at q
      have := k81 (T 5 8 * uniU x 3) (by rw [if_neg q]; rfl) (some (.int (nI (dcn (fun v => tmof T (chd x) (pit x v) == 2) 4)))) o6
      rw [show nI (T 5 8 * uniU x 3) = nI (T 5 8 * uniU x 3) + 0 from (nI_add _ 0).symm] at this
      exact this
    · have q : nI (dcn (fun v => tmof T (chd x) (pit x v) == 2) 4) = nI 0 := Decidable.not_not.mp q
      rw [nn_eq (by omega) (by decide), ← c2] at q
      have := k81 (T 5 8 * uniU x 3 + T 5 2) (by rw [if_pos q]) (some (.int (nI (dcn (fun v => tmof T (chd x) (pit x v) == 2) 4)))) o6
      rw [← nI_add, ← w2] at this
      exact this
  have loop : ∀ n v, n + v = 4 → ∀ o6, J 8 0 0 [some (.ref 117), some (.int (nI (chd x))), some (.int (nI (dcn (fun v => tmof T (chd x) (pit x v) == 2) v))), some (.int (nI (dcn (fun v => tmof T (chd x) (pit x v) == 1) v))), some (.int (nI (T 5 8 * uniU x (min v 3)))), some (.int (nI v)), o6] [] (st_h z) := by
    intro n
    induction n with
    | zero =>
      intro v hv o6
      have hv4 : v = 4 := by omega
      subst hv4
      refine ri_go hJ [62] 90 8 rfl ?_
      exact ⟨fun _ => k62 _ _, fun c => absurd (by decide) c⟩
    | succ n ih =>
      intro v hv o6
      have e1 := nI_1 v
      have iv : vp_in (nI v) 4 := vp_in_nI (by omega) (by decide)
      have nv : z.2.1 127 (nI v).toNatClampNeg = nI (pit x v) := by rw [cl31 (by omega)]; exact hN v (by omega)
      have hpv := hp v
      have em := e10_memberOf l z T hW hM (c := chd x) (p := pit x v) hc (by omega)
      rw [← nv] at em
      have k58 : ∀ (b2 b1 : Bool) (w : Int32), b2 = (tmof T (chd x) (pit x v) == 2) → b1 = (tmof T (chd x) (pit x v) == 1) → nI (T 5 8 * uniU x (min (v + 1) 3)) = nI (T 5 8 * uniU x (min v 3)) + w → J 58 0 0 [some (.ref 117), some (.int (nI (chd x))), some (.int (nI (dcn (fun v => tmof T (chd x) (pit x v) == 2) v) + zb b2)), some (.int (nI (dcn (fun v => tmof T (chd x) (pit x v) == 1) v) + zb b1)), some (.int (nI (T 5 8 * uniU x (min v 3)))), some (.int (nI v)), some (.int (nmo (tmof T (chd x) (pit x v))))] [.int w, .int (nI (T 5 8 * uniU x (min v 3)))] (st_h z) := by
        intro b2 b1 w q2 q1 qw
        refine ri_go hJ [8] 90 58 rfl ?_
        have := ih (v + 1) (by omega) (some (.int (nmo (tmof T (chd x) (pit x v)))))
        rw [dcn_st, dcn_st, ← e1, qw] at this
        rw [q2, q1]
        exact this
      have k37 : ∀ (b2 b1 : Bool), b2 = (tmof T (chd x) (pit x v) == 2) → b1 = (tmof T (chd x) (pit x v) == 1) → J 37 0 0 [some (.ref 117), some (.int (nI (chd x))), some (.int (nI (dcn (fun v => tmof T (chd x) (pit x v) == 2) v) + zb b2)), some (.int (nI (dcn (fun v => tmof T (chd x) (pit x v) == 1) v) + zb b1)), some (.int (nI (T 5 8 * uniU x (min v 3)))), some (.int (nI v)), some (.int (nmo (tmof T (chd x) (pit x v))))] [] (st_h z) := by
        intro b2 b1 q2 q1
        refine ri_go hJ [58] 90 37 rfl ?_
        refine ⟨fun q => k58 b2 b1 0 q2 q1 ?_, fun q => ?_⟩
        · have q : nI 3 ≤ nI v := q
          rw [nn_le (by decide) (by omega)] at q
          rw [show min (v + 1) 3 = min v 3 by omega]
          exact (nI_add _ 0).symm
        · have q : ¬ nI 3 ≤ nI v := q
          rw [nn_le (by decide) (by omega)] at q
          have iv1 : vp_in (nI v + 1) 4 := by rw [e1]; exact vp_in_nI (by omega) (by decide)
          have nv1 : z.2.1 127 (nI v + 1).toNatClampNeg = nI (pit x (v + 1)) := by rw [e1, cl31 (by omega)]; exact hN (v + 1) (by omega)
          have hpv1 := hp (v + 1)
          have eu : uniU x (min (v + 1) 3) = uniU x (min v 3) + (if pit x v = pit x (v + 1) then 1 else 0) := by
            rw [show min (v + 1) 3 = v + 1 by omega, show min v 3 = v by omega]; rfl
          refine ⟨iv, iv1, fun r => k58 b2 b1 0 q2 q1 ?_, fun r => ⟨j8, k58 b2 b1 _ q2 q1 ?_⟩⟩
          · have r : ¬ z.2.1 127 (nI v).toNatClampNeg = z.2.1 127 (nI v + 1).toNatClampNeg := r
            rw [nv, nv1, nn_eq (by omega) (by omega)] at r
            rw [eu, if_neg r]
            exact (nI_add _ 0).symm
          · have r : z.2.1 127 (nI v).toNatClampNeg = z.2.1 127 (nI v + 1).toNatClampNeg := Decidable.not_not.mp r
            rw [nv, nv1, nn_eq (by omega) (by omega)] at r
            rw [eu, if_pos r, w8, nI_add, Nat.mul_add, Nat.mul_one]
      have k28 : ∀ b2 : Bool, b2 = (tmof T (chd x) (pit x v) == 2) → J 28 0 0 [some (.ref 117), some (.int (nI (chd x))), some (.int (nI (dcn (fun v => tmof T (chd x) (pit x v) == 2) v) + zb b2)), some (.int (nI (dcn (fun v => tmof T (chd x) (pit x v) == 1) v))), some (.int (nI (T 5 8 * uniU x (min v 3)))), some (.int (nI v)), some (.int (nmo (tmof T (chd x) (pit x v))))] [] (st_h z) := by
        intro b2 q2
        refine ri_go hJ [37] 90 28 rfl ?_
        refine ⟨fun q => k37 b2 false q2 ?_, fun q => k37 b2 true q2 ?_⟩
        · have q : ¬ nmo (tmof T (chd x) (pit x v)) = nI 1 := q
          rw [nmo_k (by decide)] at q
          exact (ne_b q).symm
        · have q : nmo (tmof T (chd x) (pit x v)) = nI 1 := Decidable.not_not.mp q
          rw [nmo_k (by decide)] at q
          exact (eq_b q).symm
      refine ri_go hJ [28] 90 8 rfl ?_
      refine ⟨fun c => absurd c (nI_ge (a := v) (b := 4) (by omega) (by decide)), fun _ => ⟨iv, _, em, ?_⟩⟩
      rintro r h' ⟨rfl, rfl⟩
      refine ⟨fun q => k28 false ?_, fun q => k28 true ?_⟩
      · have q : ¬ nmo (tmof T (chd x) (pit x v)) = nI 2 := q
        rw [nmo_k (by decide)] at q
        exact (ne_b q).symm
      · have q : nmo (tmof T (chd x) (pit x v)) = nI 2 := Decidable.not_not.mp q
        rw [nmo_k (by decide)] at q
        exact (eq_b q).symm
  refine ri_run_ok hJ [8] 90 0 0 0 _ _ _ ?_
  exact loop 4 0 rfl none
