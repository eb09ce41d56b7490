/-! THE REFERENCE: what a step costs -/
def mvP (x y v : Nat) : Bool := decide (0 < dst (pit y v) (pit x v))
def cA (T : tT) (x y v : Nat) : Nat := T 5 4 * unt (chd x) (chd y) + lmv T x y (min v 3) + (if v = 4 ∧ 7 < dst (pit y 3) (pit x 3) then T 5 1 else 0)
theorem dst_0 {a b : Nat} : dst a b = 0 ↔ a = b := by
  unfold dst
  split <;> omega
theorem same16 {x y : Nat} (hx : x < 2 ^ 28) (hy : y < 2 ^ 28) : x / 16 = y / 16 ↔ ∀ v, v < 4 → pit y v = pit x v := by
  constructor
  · intro h v hv
    match v, hv with
    | 0, _ => rw [pit0, pit0]; omega
    | 1, _ => rw [pit1, pit1]; omega
    | 2, _ => rw [pit2, pit2]; omega
    | 3, _ => rw [pit3, pit3]; omega
    | v + 4, hv => exact absurd hv (by omega)
  · intro h
    exact (lex_eq hx hy h).2.symm
theorem mv_16 {x y : Nat} (hx : x < 2 ^ 28) (hy : y < 2 ^ 28) : anf (mvP x y) 4 0 = false ↔ x / 16 = y / 16 := by
  rw [same16 hx hy]
  constructor
  · intro h v hv
    have : ¬ 0 < dst (pit y v) (pit x v) := fun q => by
      have : anf (mvP x y) 4 0 = true := anf_iff.mpr ⟨v, Nat.zero_le _, by omega, decide_eq_true q⟩
      rw [h] at this; cases this
    exact dst_0.mp (by omega)
  · intro h
    refine Bool.eq_false_iff.mpr (fun q => ?_)
    obtain ⟨v, -, hv, hp⟩ := anf_iff.mp q
    have : 0 < dst (pit y v) (pit x v) := of_decide_eq_true hp
    rw [dst_0.mpr (h v (by omega))] at this
    omega
set_option maxHeartbeats 4000000 in
theorem e10_costOfStep (l : Launch) (z : st_T) (T : tT) (hW : TW T) (hM : RM z T) {s t x y : Nat} (hs : s < 6400) (ht : t < 6400) (hx : CK x) (hy : CK y) (hu : ¬ unt (chd x) (chd y) = 9) (hEx : EC z s x) (hEy : EC z t y) : ri_Ev l y10_costOfStep w10_costOfStep r10_costOfStep 0 0 [.ref 117, .int (nI s), .int (nI t)] (st_h z) (ri_is (nI (csp T x y)) (st_h z)) := by
  refine ri_ev (t10_costOfStep l _) rfl rfl rfl (Nat.le_of_ble_eq_true rfl) rfl (z10_costOfStep l _) (fun J hJ => ?_)
  have px : ∀ v, pit x v < 100 := fun v => (pit_lt x v).1
  have py : ∀ v, pit y v < 100 := fun v => (pit_lt y v).1
  have gx : ∀ v, v < 4 → vp_in (4 * nI s + nI v) 25600 ∧ z.2.1 114 (4 * nI s + nI v).toNatClampNeg = nI (pit x v) := by
    intro v hv
    have e : 4 * nI s + nI v = nI (4 * s + v) := ix4d
    rw [e, cl31 (by omega)]
    exact ⟨vp_in_nI (by omega) (by decide), hEx.1 v hv⟩
  have gy : ∀ v, v < 4 → vp_in (4 * nI t + nI v) 25600 ∧ z.2.1 114 (4 * nI t + nI v).toNatClampNeg = nI (pit y v) := by
    intro v hv
    have e : 4 * nI t + nI v = nI (4 * t + v) := ix4d
    rw [e, cl31 (by omega)]
    exact ⟨vp_in_nI (by omega) (by decide), hEy.1 v hv⟩
  have gx0 : vp_in (4 * nI s) 25600 ∧ z.2.1 114 (4 * nI s).toNatClampNeg = nI (pit x 0) := by
    have h := gx 0 (by decide)
    rw [show 4 * nI s + nI 0 = 4 * nI s from by
      have e1 : 4 * nI s + nI 0 = nI (4 * s + 0) := ix4d
      have e2 : 4 * nI s = nI (4 * s) := by show nI 4 * nI s = _; rw [pk_mul]
      rw [e1, e2]; rfl] at h
    exact h
  have gy0 : vp_in (4 * nI t) 25600 ∧ z.2.1 114 (4 * nI t).toNatClampNeg = nI (pit y 0) := by
    have h := gy 0 (by decide)
    rw [show 4 * nI t + nI 0 = 4 * nI t from by
      have e1 : 4 * nI t + nI 0 = nI (4 * t + 0) := ix4d
      have e2 : 4 * nI t = nI (4 * t) := by show nI 4 * nI t = _; rw [pk_mul]
      rw [e1, e2]; rfl] at h
    exact h
  have ex : z.2.1 115 (nI s).toNatClampNeg = nI (chd x) := by rw [cl31 (by omega)]; exact hEx.2
  have ey : z.2.1 115 (nI t).toNatClampNeg = nI (chd y) := by rw [cl31 (by omega)]; exact hEy.2
  have hco := hM.2.2.2.2.1
  have w0 : z.2.1 111 (0 : Int32).toNatClampNeg = nI (T 5 0) := hco 0 (by decide)
  have w1 : z.2.1 111 (1 : Int32).toNatClampNeg = nI (T 5 1) := hco 1 (by decide)
  have w4 : z.2.1 111 (4 : Int32).toNatClampNeg = nI (T 5 4) := hco 4 (by decide)
  have w5 : z.2.1 111 (5 : Int32).toNatClampNeg = nI (T 5 5) := hco 5 (by decide)
  have w7 : z.2.1 111 (7 : Int32).toNatClampNeg = nI (T 5 7) := hco 7 (by decide)
  have j0 : vp_in 0 9 := vp_in_nI (n := 0) (by decide) (by decide)
  have j1 : vp_in 1 9 := vp_in_nI (n := 1) (by decide) (by decide)
  have j4 : vp_in 4 9 := vp_in_nI (n := 4) (by decide) (by decide)
  have j5 : vp_in 5 9 := vp_in_nI (n := 5) (by decide) (by decide)
  have j7 : vp_in 7 9 := vp_in_nI (n := 7) (by decide) (by decide)
  have p0x := px 0
  have p0y := py 0
  have p3x := px 3
  have p3y := py 3
  -- the last summand: does nothing move
  have k166 : ∀ A : Nat, A = T 5 4 * unt (chd x) (chd y) + lmv T x y 3 + (if 7 < dst (pit y 3) (pit x 3) then T 5 1 else 0) + (if hid x y = true then T 5 5 else 0) → ∀ o5 o6 o7 o8, J 166 0 0 [some (.ref 117), some (.int (nI s)), some (.int (nI t)), some (.int (nI A)), some (.int (zb (anf (mvP x y) 4 0))), o5, o6, o7, o8] [] (st_h z) := by
    intro A hA o5 o6 o7 o8
    refine ri_go hJ [] 90 166 rfl ?_
    refine ⟨fun q => ⟨j7, ?_, rfl⟩, fun q => ⟨?_, rfl⟩⟩
    · have q := (mv_16 hx.1 hy.1).mp (zb_0.mp q)
      show some (Value.int (nI A + z.2.1 111 (7 : Int32).toNatClampNeg)) = _
      unfold csp
      rw [if_pos q, ← hA, w7, nI_add]
    · have q : ¬ x / 16 = y / 16 := fun e => by
        have := (mv_16 hx.1 hy.1).mpr e
        have q := zb_1.mp q
        rw [this] at q; cases q
      show some (Value.int (nI A + 0)) = _
      unfold csp
      rw [if_neg q, ← hA]
      exact congrArg (fun w => some (Value.int w)) (nI_add A 0)
  -- the hidden ones
  have hmod : (pit y 0 - pit y 3) % 12 < 12 := Nat.mod_lt _ (by decide)
  have d03 : pit y 3 ≤ pit y 0 := hy.2.2 0 3 (by decide) (by decide)
  have hds0 : dst (pit y 0) (pit x 0) < 2 ^ 31 := by unfold dst; split <;> omega
  have k146 : ∀ al : Bool, (al = true ↔ ((pit x 0 < pit y 0 ∧ pit x 3 < pit y 3) ∨ (pit y 0 < pit x 0 ∧ pit y 3 < pit x 3))) → ∀ A : Nat, A = T 5 4 * unt (chd x) (chd y) + lmv T x y 3 + (if 7 < dst (pit y 3) (pit x 3) then T 5 1 else 0) → ∀ o6, J 146 0 0 [some (.ref 117), some (.int (nI s)), some (.int (nI t)), some (.int (nI A)), some (.int (zb (anf (mvP x y) 4 0))), some (.int (nI (pit y 0) - nI (pit x 0))), o6, some (.int (zb al)), some (.int (nI ((pit y 0 - pit y 3) % 12)))] [] (st_h z) := by
    intro al hal A hA o6
    have hA2 : ∀ b : Bool, hid x y = b → A + (bif b then T 5 5 else 0) = T 5 4 * unt (chd x) (chd y) + lmv T x y 3 + (if 7 < dst (pit y 3) (pit x 3) then T 5 1 else 0) + (if hid x y = true then T 5 5 else 0) := by
      intro b hb
      rw [hb, hA]
      cases b <;> rfl
    have no : hid x y = false → J 164 0 0 [some (.ref 117), some (.int (nI s)), some (.int (nI t)), some (.int (nI A)), some (.int (zb (anf (mvP x y) 4 0))), some (.int (nI (pit y 0) - nI (pit x 0))), o6, some (.int (zb al)), some (.int (nI ((pit y 0 - pit y 3) % 12)))] [.int 0, .int (nI A)] (st_h z) := by
      intro hb
      refine ri_go hJ [166] 90 164 rfl ?_
      have := k166 (A + 0) (hA2 false hb) (some (.int (nI (pit y 0) - nI (pit x 0)))) o6 (some (.int (zb al))) (some (.int (nI ((pit y 0 - pit y 3) % 12))))
      rw [← nI_add A 0] at this
      exact this
    have yes : hid x y = true → J 164 0 0 [some (.ref 117), some (.int (nI s)), some (.int (nI t)), some (.int (nI A)), some (.int (zb (anf (mvP x y) 4 0))), some (.int (nI (pit y 0) - nI (pit x 0))), o6, some (.int (zb al)), some (.int (nI ((pit y 0 - pit y 3) % 12)))] [.int (z.2.1 111 (5 : Int32).toNatClampNeg), .int (nI A)] (st_h z) := by
      intro hb
      refine ri_go hJ [166] 90 164 rfl ?_
      have := k166 (A + T 5 5) (hA2 true hb) (some (.int (nI (pit y 0) - nI (pit x 0)))) o6 (some (.int (zb al))) (some (.int (nI ((pit y 0 - pit y 3) % 12))))
      rw [← nI_add A, ← w5] at this
      exact this
    refine ri_go hJ [164] 90 146 rfl ?_
    have hhf : ∀ {P : Prop} [Decidable P], (¬ P) → (hidA (pit x 0) (pit y 0) (pit x 3) (pit y 3) = true → P) → hidA (pit x 0) (pit y 0) (pit x 3) (pit y 3) = false := fun h h2 => Bool.eq_false_iff.mpr (fun q => h (h2 q))
    have hAi : hidA (pit x 0) (pit y 0) (pit x 3) (pit y 3) = true ↔ (pit x 0 + 2 < pit y 0 ∧ pit x 3 < pit y 3) ∨ (pit y 0 + 2 < pit x 0 ∧ pit y 3 < pit x 3) := by
      unfold hidA
      simp only [Bool.or_eq_true, Bool.and_eq_true, decide_eq_true_eq]
    refine ⟨fun q => no ?_, fun q => ⟨_, e10_sizeN l _ (a := pit y 0) (b := pit x 0) (by omega) (by omega), ?_⟩⟩
    · have q := zb_0.mp q
      unfold hid
      rw [show hidA (pit x 0) (pit y 0) (pit x 3) (pit y 3) = false from Bool.eq_false_iff.mpr (fun h => by
        have h := hAi.mp h
        have := hal.mpr (by omega)
        rw [q] at this; cases this)]; rfl
    · rintro r h' ⟨rfl, rfl⟩
      have q := hal.mp (zb_1.mp q)
      refine ⟨fun q2 => no ?_, fun q2 => ?_⟩
      · have q2 : nI (dst (pit y 0) (pit x 0)) ≤ nI 2 := q2
        rw [nn_le hds0 (by decide)] at q2
        unfold hid
        rw [show hidA (pit x 0) (pit y 0) (pit x 3) (pit y 3) = false from Bool.eq_false_iff.mpr (fun h => by
          have h := hAi.mp h
          unfold dst at q2
          split at q2 <;> omega)]; rfl
      · have q2 : ¬ nI (dst (pit y 0) (pit x 0)) ≤ nI 2 := q2
        rw [nn_le hds0 (by decide)] at q2
        have hA1 : hidA (pit x 0) (pit y 0) (pit x 3) (pit y 3) = true := hAi.mpr (by
          unfold dst at q2
          split at q2 <;> omega)
        refine ⟨fun q3 => ⟨j5, yes ?_⟩, fun q3 => ⟨fun q4 => no ?_, fun q4 => ⟨j5, yes ?_⟩⟩⟩
        · have q3 : nI ((pit y 0 - pit y 3) % 12) = nI 0 := q3
          rw [nn_eq (by omega) (by decide)] at q3
          unfold hid; rw [hA1, eq_b q3]; rfl
        · have q3 : ¬ nI ((pit y 0 - pit y 3) % 12) = nI 0 := q3
          rw [nn_eq (by omega) (by decide)] at q3
          have q4 : ¬ nI ((pit y 0 - pit y 3) % 12) = nI 7 := q4
          rw [nn_eq (by omega) (by decide)] at q4
          unfold hid; rw [ne_b q3, ne_b q4]; simp
        · have q4 : nI ((pit y 0 - pit y 3) % 12) = nI 7 := Decidable.not_not.mp q4
          rw [nn_eq (by omega) (by decide)] at q4
          unfold hid; rw [hA1, eq_b q4]; simp
  have gy3 := gy 3 (by decide)
  have gx3 := gx 3 (by decide)
  have ap := e10_apart l (st_h z) (n := pit y 0 - pit y 3) (by omega)
  rw [← pk_sub d03] at ap
  have k129 : ∀ al : Bool, (al = true ↔ ((pit x 0 < pit y 0 ∧ pit x 3 < pit y 3) ∨ (pit y 0 < pit x 0 ∧ pit y 3 < pit x 3))) → ∀ A : Nat, A = T 5 4 * unt (chd x) (chd y) + lmv T x y 3 + (if 7 < dst (pit y 3) (pit x 3) then T 5 1 else 0) → ∀ o6 o8, J 129 0 0 [some (.ref 117), some (.int (nI s)), some (.int (nI t)), some (.int (nI A)), some (.int (zb (anf (mvP x y) 4 0))), some (.int (nI (pit y 0) - nI (pit x 0))), o6, some (.int (zb al)), o8] [] (st_h z) := by
    intro al hal A hA o6 o8
    have k144 : ∀ u w : Int32, u = nI (pit y 0) → w = nI (pit y 3) → J 144 0 0 [some (.ref 117), some (.int (nI s)), some (.int (nI t)), some (.int (nI A)), some (.int (zb (anf (mvP x y) 4 0))), some (.int (nI (pit y 0) - nI (pit x 0))), o6, some (.int (zb al)), o8] [.int (u - w)] (st_h z) := by
      rintro u w rfl rfl
      refine ri_go hJ [146] 90 144 rfl ?_
      refine ⟨_, ap, ?_⟩
      rintro r h' ⟨rfl, rfl⟩
      exact k146 al hal A hA o6
    refine ri_go hJ [144] 90 129 rfl ?_
    refine ⟨gy0.1, gy3.1, ?_⟩
    exact k144 _ _ gy0.2 gy3.2
  have k85 : ∀ A : Nat, A = T 5 4 * unt (chd x) (chd y) + lmv T x y 3 + (if 7 < dst (pit y 3) (pit x 3) then T 5 1 else 0) → ∀ o5 o6 o7 o8, J 85 0 0 [some (.ref 117), some (.int (nI s)), some (.int (nI t)), some (.int (nI A)), some (.int (zb (anf (mvP x y) 4 0))), o5, o6, o7, o8] [] (st_h z) := by
    intro A hA o5 o6 o7 o8
    have k117 : J 117 0 0 [some (.ref 117), some (.int (nI s)), some (.int (nI t)), some (.int (nI A)), some (.int (zb (anf (mvP x y) 4 0))), some (.int (nI (pit y 0) - nI (pit x 0))), some (.int (nI (pit y 3) - nI (pit x 3))), o7, o8] [] (st_h z) := by
      refine ri_go hJ [129, 121] 90 117 rfl ?_
      have k121 : ¬ (pit x 0 < pit y 0 ∧ pit x 3 < pit y 3) → J 121 0 0 [some (.ref 117), some (.int (nI s)), some (.int (nI t)), some (.int (nI A)), some (.int (zb (anf (mvP x y) 4 0))), some (.int (nI (pit y 0) - nI (pit x 0))), some (.int (nI (pit y 3) - nI (pit x 3))), o7, o8] [] (st_h z) := by
        intro hno
        refine ri_go hJ [129] 90 121 rfl ?_
        refine ⟨fun q => k129 false ?_ A hA _ _, fun q => ⟨fun q2 => k129 false ?_ A hA _ _, fun q2 => k129 true ?_ A hA _ _⟩⟩
        · have q : (0 : Int32) ≤ nI (pit y 0) - nI (pit x 0) := q
          rw [le_sub (by omega) (by omega), ti_0] at q
          exact ⟨fun h => (by cases h), fun h => by omega⟩
        · have q2 : (0 : Int32) ≤ nI (pit y 3) - nI (pit x 3) := q2
          rw [le_sub (by omega) (by omega), ti_0] at q2
          exact ⟨fun h => (by cases h), fun h => by omega⟩
        · have q : ¬ (0 : Int32) ≤ nI (pit y 0) - nI (pit x 0) := q
          rw [le_sub (by omega) (by omega), ti_0] at q
          have q2 : ¬ (0 : Int32) ≤ nI (pit y 3) - nI (pit x 3) := q2
          rw [le_sub (by omega) (by omega), ti_0] at q2
          exact ⟨fun _ => by omega, fun _ => rfl⟩
      refine ⟨fun q => k121 ?_, fun q => ⟨fun q2 => k129 true ?_ A hA _ _, fun q2 => k121 ?_⟩⟩
      · have q : nI (pit y 0) - nI (pit x 0) ≤ (0 : Int32) := q
        rw [sub_le (by omega) (by omega), ti_0] at q
        omega
      · have q : ¬ nI (pit y 0) - nI (pit x 0) ≤ (0 : Int32) := q
        rw [sub_le (by omega) (by omega), ti_0] at q
        have q2 : (0 : Int32) < nI (pit y 3) - nI (pit x 3) := q2
        rw [lt_sub (by omega) (by omega), ti_0] at q2
        exact ⟨fun _ => by omega, fun _ => rfl⟩
      · have q2 : ¬ (0 : Int32) < nI (pit y 3) - nI (pit x 3) := q2
        rw [lt_sub (by omega) (by omega), ti_0] at q2
        omega
    refine ri_go hJ [117] 90 85 rfl ?_
    refine ⟨gy0.1, gx0.1, gy3.1, gx3.1, ?_⟩
    rw [← gy0.2, ← gx0.2, ← gy3.2, ← gx3.2] at k117
    exact k117
  have loop : ∀ n v, n + v = 4 → ∀ o6 o7 o8, J 19 0 0 [some (.ref 117), some (.int (nI s)), some (.int (nI t)), some (.int (nI (cA T x y v))), some (.int (zb (anf (mvP x y) v 0))), some (.int (nI v)), o6, o7, o8] [] (st_h z) := by
    intro n
    induction n with
    | zero =>
      intro v hv o6 o7 o8
      have hv4 : v = 4 := by omega
      subst hv4
      refine ri_go hJ [85] 90 19 rfl ?_
      refine ⟨fun _ => k85 _ ?_ _ _ _ _, fun c => absurd (by decide) c⟩
      unfold cA
      by_cases q : 7 < dst (pit y 3) (pit x 3)
      · rw [if_pos ⟨rfl, q⟩, if_pos q]; rfl
      · rw [if_neg (fun h => q h.2), if_neg q]; rfl
    | succ n ih =>
      intro v hv o6 o7 o8
      have e1 := nI_1 v
      have hv4 : v < 4 := by omega
      have pxv := px v
      have pyv := py v
      have hxv := gx v hv4
      have hyv := gy v hv4
      have hds : dst (pit y v) (pit x v) < 100 := by unfold dst; split <;> omega
      have sm : anf (mvP x y) (v + 1) 0 = (anf (mvP x y) v 0 || mvP x y v) := by rw [anf_snoc, Nat.zero_add]
      -- the two summands of this voice
      have k81 : ∀ (A W : Nat) (u : Int32), A + W = cA T x y (v + 1) → u = nI W → ∀ o7 o8, J 81 0 0 [some (.ref 117), some (.int (nI s)), some (.int (nI t)), some (.int (nI A)), some (.int (zb (anf (mvP x y) (v + 1) 0))), some (.int (nI v)), some (.int (nI (dst (pit y v) (pit x v)))), o7, o8] [.int u, .int (nI A)] (st_h z) := by
        intro A W u hA hu' o7 o8
        refine ri_go hJ [19] 90 81 rfl ?_
        have := ih (v + 1) (by omega) (some (.int (nI (dst (pit y v) (pit x v))))) o7 o8
        rw [← hA, ← nI_add A, ← hu', ← e1] at this
        exact this
      have k68 : ∀ A : Nat, A = cA T x y v + (if v < 3 then T 5 0 * (dst (pit y v) (pit x v) - 2) else 0) → ∀ o7 o8, J 68 0 0 [some (.ref 117), some (.int (nI s)), some (.int (nI t)), some (.int (nI A)), some (.int (zb (anf (mvP x y) (v + 1) 0))), some (.int (nI v)), some (.int (nI (dst (pit y v) (pit x v)))), o7, o8] [] (st_h z) := by
        intro A hA o7 o8
        refine ri_go hJ [81] 90 68 rfl ?_
        refine ⟨fun q => k81 A 0 0 ?_ rfl _ _, fun q => ⟨fun q2 => k81 A 0 0 ?_ rfl _ _, fun q2 => ⟨j1, k81 A (T 5 1) _ ?_ w1 _ _⟩⟩⟩
        · have q : ¬ nI v = nI 3 := q
          rw [nn_eq (by omega) (by decide)] at q
          rw [hA]
          unfold cA
          rw [if_pos (show v < 3 by omega), if_neg (by omega), if_neg (by omega), show min (v + 1) 3 = v + 1 by omega, show min v 3 = v by omega]
          show _ = _ + (lmv T x y v + _) + _
          omega
        · have q : nI v = nI 3 := Decidable.not_not.mp q
          rw [nn_eq (by omega) (by decide)] at q
          subst q
          have q2 : nI (dst (pit y 3) (pit x 3)) ≤ nI 7 := q2
          rw [nn_le (by omega) (by decide)] at q2
          rw [hA]
          unfold cA
          rw [if_neg (by omega), if_neg (by omega), if_neg (by omega)]; rfl
        · have q : nI v = nI 3 := Decidable.not_not.mp q
          rw [nn_eq (by omega) (by decide)] at q
          subst q
          have q2 : ¬ nI (dst (pit y 3) (pit x 3)) ≤ nI 7 := q2
          rw [nn_le (by omega) (by decide)] at q2
          rw [hA]
          unfold cA
          rw [if_neg (by omega), if_neg (by omega), if_pos ⟨rfl, by omega⟩]; rfl
      have k66 : ∀ (W : Nat) (u : Int32), W = (if v < 3 then T 5 0 * (dst (pit y v) (pit x v) - 2) else 0) → u = nI W → ∀ o7 o8, J 66 0 0 [some (.ref 117), some (.int (nI s)), some (.int (nI t)), some (.int (nI (cA T x y v))), some (.int (zb (anf (mvP x y) (v + 1) 0))), some (.int (nI v)), some (.int (nI (dst (pit y v) (pit x v)))), o7, o8] [.int u, .int (nI (cA T x y v))] (st_h z) := by
        intro W u hWq hu' o7 o8
        refine ri_go hJ [68] 90 66 rfl ?_
        have := k68 (cA T x y v + W) (by rw [hWq]) o7 o8
        rw [← nI_add, ← hu'] at this
        exact this
      have k49 : ∀ o7 o8, J 49 0 0 [some (.ref 117), some (.int (nI s)), some (.int (nI t)), some (.int (nI (cA T x y v))), some (.int (zb (anf (mvP x y) (v + 1) 0))), some (.int (nI v)), some (.int (nI (dst (pit y v) (pit x v)))), o7, o8] [] (st_h z) := by
        intro o7 o8
        refine ri_go hJ [66] 90 49 rfl ?_
        refine ⟨fun q => k66 0 0 ?_ rfl _ _, fun q => ⟨fun q2 => k66 0 0 ?_ rfl _ _, fun q2 => ⟨j0, k66 (T 5 0 * (dst (pit y v) (pit x v) - 2)) _ ?_ ?_ _ _⟩⟩⟩
        · have q : nI 3 ≤ nI v := q
          rw [nn_le (by decide) (by omega)] at q
          rw [if_neg (by omega)]
        · have q2 : nI (dst (pit y v) (pit x v)) ≤ nI 2 := q2
          rw [nn_le (by omega) (by decide)] at q2
          rw [show dst (pit y v) (pit x v) - 2 = 0 by omega, Nat.mul_zero, ite_self]
        · have q : ¬ nI 3 ≤ nI v := q
          rw [nn_le (by decide) (by omega)] at q
          rw [if_pos (by omega)]
        · have q2 : ¬ nI (dst (pit y v) (pit x v)) ≤ nI 2 := q2
          rw [nn_le (by omega) (by decide)] at q2
          show z.2.1 111 (0 : Int32).toNatClampNeg * (nI (dst (pit y v) (pit x v)) - nI 2) = _
          rw [w0, pk_sub (by omega), pk_mul]
      have k48 : ∀ (u : Int32), u = zb (anf (mvP x y) (v + 1) 0) → ∀ o7 o8, J 48 0 0 [some (.ref 117), some (.int (nI s)), some (.int (nI t)), some (.int (nI (cA T x y v))), some (.int (zb (anf (mvP x y) v 0))), some (.int (nI v)), some (.int (nI (dst (pit y v) (pit x v)))), o7, o8] [.int u] (st_h z) := by
        intro u hu' o7 o8
        refine ri_go hJ [49] 90 48 rfl ?_
        rw [hu']
        exact k49 _ _
      have k38 : ∀ o6 o7 o8, J 38 0 0 [some (.ref 117), some (.int (nI s)), some (.int (nI t)), some (.int (nI (cA T x y v))), some (.int (zb (anf (mvP x y) v 0))), some (.int (nI v)), o6, o7, o8] [.int (nI (pit x v)), .int (nI (pit y v))] (st_h z) := by
        intro o6 o7 o8
        refine ri_go hJ [48] 90 38 rfl ?_
        refine ⟨_, e10_sizeN l _ (a := pit y v) (b := pit x v) (by omega) (by omega), ?_⟩
        rintro r h' ⟨rfl, rfl⟩
        refine ⟨fun q => k48 1 ?_ _ _, fun q => ⟨fun q2 => k48 0 ?_ _ _, fun q2 => k48 1 ?_ _ _⟩⟩
        · have q := zb_1.mp q
          rw [sm, q]; rfl
        · have q := zb_0.mp (Decidable.not_not.mp q)
          have q2 : nI (dst (pit y v) (pit x v)) ≤ nI 0 := q2
          rw [nn_le (by omega) (by decide)] at q2
          rw [sm, q, show mvP x y v = false from decide_eq_false (by omega)]; rfl
        · have q2 : ¬ nI (dst (pit y v) (pit x v)) ≤ nI 0 := q2
          rw [nn_le (by omega) (by decide)] at q2
          rw [sm, show mvP x y v = true from decide_eq_true (by omega), Bool.or_true]; rfl
      refine ri_go hJ [38] 90 19 rfl ?_
      refine ⟨fun c => absurd c (nI_ge (a := v) (b := 4) (by omega) (by decide)), fun _ => ⟨hyv.1, hxv.1, ?_⟩⟩
      have := k38 o6 o7 o8
      rw [← hxv.2, ← hyv.2] at this
      exact this
  have k12 : J 12 0 0 [some (.ref 117), some (.int (nI s)), some (.int (nI t)), none, none, none, none, none, none] [.int (nI (chd y)), .int (nI (chd x)), .int (nI (T 5 4))] (st_h z) := by
    refine ri_go hJ [19] 90 12 rfl ?_
    refine ⟨_, e10_unitsN l _ hx.2.1 hy.2.1, ?_⟩
    rintro r h' ⟨rfl, rfl⟩
    have := loop 4 0 rfl none none none
    rw [show cA T x y 0 = T 5 4 * unt (chd x) (chd y) by unfold cA; rw [if_neg (by omega)]; rfl, ← pk_mul, show nI (unt (chd x) (chd y)) = nU (unt (chd x) (chd y)) by unfold nU; rw [if_neg hu]] at this
    exact this
  refine ri_run_ok hJ [12] 90 0 0 0 _ _ _ ?_
  refine ⟨j4, vp_in_nI (by omega) (by decide), vp_in_nI (by omega) (by decide), ?_⟩
  rw [← ex, ← ey, ← w4] at k12
  exact k12
