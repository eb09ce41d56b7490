/-! THE REFERENCE: one step: barsStep -/
def br6 (f7 f8 f9 f10 f11 f12 : Bool) : Int32 := ((((bit f7 128 ||| bit f8 256) ||| bit f9 512) ||| bit f10 1024) ||| bit f11 2048) ||| bit f12 4096
theorem br6_8 : ∀ f7 f8 f9 f10 f11 f12 : Bool, br6 f7 f8 f9 f10 f11 f12 ||| 256 = br6 f7 true f9 f10 f11 f12 := by decide
theorem br6_9 : ∀ f7 f8 f9 f10 f11 f12 : Bool, br6 f7 f8 f9 f10 f11 f12 ||| 512 = br6 f7 f8 true f10 f11 f12 := by decide
theorem br6_10 : ∀ f7 f8 f9 f10 f11 f12 : Bool, br6 f7 f8 f9 f10 f11 f12 ||| 1024 = br6 f7 f8 f9 true f11 f12 := by decide
theorem br6_11 : ∀ f7 f8 f9 f10 f11 f12 : Bool, br6 f7 f8 f9 f10 f11 f12 ||| 2048 = br6 f7 f8 f9 f10 true f12 := by decide
theorem br6_12 : ∀ f7 f8 f9 f10 f11 f12 : Bool, br6 f7 f8 f9 f10 f11 f12 ||| 4096 = br6 f7 f8 f9 f10 f11 true := by decide
def m10 (x y v : Nat) : Bool := (decide (0 < v) && decide (pit x (v - 1) < pit y v)) || (decide (v < 3) && decide (pit y v < pit x (v + 1)))
def m11 (T : tT) (x y v : Nat) : Bool := (chd x == 4 || (chd x == 6 || chd x == 7)) && ((chd y == 0 || chd y == 5) && ((v == 0 || v == 3) && b11v T x y v))
def m12 (T : tT) (x y v : Nat) : Bool := !(chd x == chd y) && ((tmof T (chd x) (pit x v) == 3) && !(decide (pit y v ≤ pit x v) && decide (pit x v - pit y v ≤ 2)))
theorem anf4 (P : Nat → Bool) : anf P 4 0 = (P 0 || (P 1 || (P 2 || (P 3 || false)))) := rfl
theorem anf3 (P : Nat → Bool) : anf P 3 0 = (P 0 || (P 1 || (P 2 || false))) := rfl
theorem brs_m {T : tT} (h0 : T 8 0 < 12) {x y : Nat} (hx : CK x) : brs T x y = br6 (b7 x y) (anf (b8 x y) 4 0) (anf (b9 x y) 4 0) (anf (m10 x y) 4 0) (anf (m11 T x y) 4 0) (anf (m12 T x y) 4 0) := by
  have e8 : anf (b8 x y) 4 0 = anf (b8 x y) 3 0 := by
    rw [anf4, anf3]
    have : b8 x y 3 = false := rfl
    rw [this]; rfl
  have e10 : anf (m10 x y) 4 0 = anf (b10 x y) 3 0 := by
    rw [anf4, anf3]
    unfold m10 b10
    simp only [Nat.lt_irrefl, Nat.zero_lt_succ, decide_false, decide_true, Bool.false_and, Bool.true_and, Bool.false_or, Bool.or_false, Nat.reduceLT, Nat.reduceSub, Nat.reduceAdd]
    cases decide (pit x 0 < pit y 1) <;> cases decide (pit y 0 < pit x 1) <;> cases decide (pit x 1 < pit y 2) <;> cases decide (pit y 1 < pit x 2) <;> cases decide (pit x 2 < pit y 3) <;> cases decide (pit y 2 < pit x 3) <;> rfl
  have e11 : anf (m11 T x y) 4 0 = b11 T x y := by
    rw [anf4]
    unfold m11 b11
    cases (chd x == 4 || (chd x == 6 || chd x == 7)) <;> cases (chd y == 0 || chd y == 5) <;> cases b11v T x y 0 <;> cases b11v T x y 3 <;> rfl
  have e12 : anf (m12 T x y) 4 0 = b12 T x y := by
    have hv : ∀ v, ((tmof T (chd x) (pit x v) == 3) : Bool) = (!(tmem T (chd x) 3 == 99) && (pit x v % 12 == tmem T (chd x) 3)) := by
      intro v
      have it := tmof_iff h0 (p := pit x v) (k := 3) hx.2.1 (by decide)
      have hm : pit x v % 12 < 12 := Nat.mod_lt _ (by decide)
      by_cases q : tmof T (chd x) (pit x v) = 3
      · have q2 := it.mp q
        rw [eq_b q, ne_b (show ¬ tmem T (chd x) 3 = 99 by omega), eq_b q2.symm]; rfl
      · rw [ne_b q, ne_b (show ¬ pit x v % 12 = tmem T (chd x) 3 from fun e => q (it.mpr e.symm)), Bool.and_false]
    rw [anf4]
    unfold m12 b12
    rw [anf4, hv, hv, hv, hv]
    unfold b12v
    cases (tmem T (chd x) 3 == 99) <;> cases (chd x == chd y) <;> simp
  unfold brs br6
  rw [e8, e10, e11, e12]
/-- entry s has these pitches and this chord -/
def EC (z : st_T) (s x : Nat) : Prop := (∀ v, v < 4 → z.2.1 114 (4 * s + v) = nI (pit x v)) ∧ z.2.1 115 s = nI (chd x)
set_option maxHeartbeats 4000000 in
theorem e10_barsStep (l : Launch) (z : st_T) (T : tT) (hW : TW T) (hM : RM z T) {s t x y : Nat} (hs : s < 6400) (ht : t < 6400) (hx : CK x) (hy : CK y) (hEx : EC z s x) (hEy : EC z t y) : ri_Ev l y10_barsStep w10_barsStep r10_barsStep 0 0 [.ref 117, .int (nI s), .int (nI t)] (st_h z) (ri_is (brs T x y) (st_h z)) := by
  rw [brs_m hW.2.1 hx]
  refine ri_ev (t10_barsStep l _) rfl rfl rfl (Nat.le_of_ble_eq_true rfl) rfl (z10_barsStep l _) (fun J hJ => ?_)
  have h0 := hW.2.1
  have px : ∀ v, pit x v < 100 := fun v => (pit_lt x v).1
  have py : ∀ v, pit y v < 100 := fun v => (pit_lt y v).1
  have gx : ∀ v, v < 4 → vp_in (4 * nI s + nI v) 25600 ∧ z.2.1 114 (4 * nI s + nI v).toNatClampNeg = nI (pit x v) := by
    intro v hv
    have e : 4 * nI s + nI v = nI (4 * s + v) := ix4d
    rw [e, cl31 (by omega)]
    exact ⟨vp_in_nI (by omega) (by decide), hEx.1 v hv⟩
  have gy : ∀ v, v < 4 → vp_in (4 * nI t + nI v) 25600 ∧ z.2.1 114 (4 * nI t + nI v).toNatClampNeg = nI (pit y v) := by
    intro v hv
    have e : 4 * nI t + nI v = nI (4 * t + v) := ix4d
    rw [e, cl31 (by omega)]
    exact ⟨vp_in_nI (by omega) (by decide), hEy.1 v hv⟩
  have ex : z.2.1 115 (nI s).toNatClampNeg = nI (chd x) := by rw [cl31 (by omega)]; exact hEx.2
  have ey : z.2.1 115 (nI t).toNatClampNeg = nI (chd y) := by rw [cl31 (by omega)]; exact hEy.2
  have cx := hx.2.1
  have cy := hy.2.1
  have cnx : ∀ k, k < 13 → ((nI (chd x) = nI k) = (chd x = k)) := fun k hk => nn_eq (by omega) (by omega)
  have cny : ∀ k, k < 13 → ((nI (chd y) = nI k) = (chd y = k)) := fun k hk => nn_eq (by omega) (by omega)
  have loop : ∀ n v, n + v = 4 → ∀ o7 o8 o9 o10 o11 o12 o13, J 20 0 0 [some (.ref 117), some (.int (nI s)), some (.int (nI t)), some (.int (nI (chd x))), some (.int (nI (chd y))), some (.int (br6 (b7 x y) (anf (b8 x y) v 0) (anf (b9 x y) v 0) (anf (m10 x y) v 0) (anf (m11 T x y) v 0) (anf (m12 T x y) v 0))), some (.int (nI v)), o7, o8, o9, o10, o11, o12, o13] [] (st_h z) := by
    intro n
    induction n with
    | zero =>
      intro v hv o7 o8 o9 o10 o11 o12 o13
      have hv4 : v = 4 := by omega
      subst hv4
      refine ri_go hJ [] 90 20 rfl ?_
      exact ⟨fun _ => ⟨rfl, rfl⟩, fun c => absurd (by decide) c⟩
    | succ n ih =>
      intro v hv o7 o8 o9 o10 o11 o12 o13
      have e1 := nI_1 v
      have hv4 : v < 4 := by omega
      have pxv := px v
      have pyv := py v
      have hds : dst (pit y v) (pit x v) < 2 ^ 31 := by unfold dst; split <;> omega
      generalize hf8 : anf (b8 x y) v 0 = f8
      generalize hf9 : anf (b9 x y) v 0 = f9
      generalize hf10 : anf (m10 x y) v 0 = f10
      generalize hf11 : anf (m11 T x y) v 0 = f11
      generalize hf12 : anf (m12 T x y) v 0 = f12
      have s8 : anf (b8 x y) (v + 1) 0 = (f8 || b8 x y v) := by rw [anf_snoc, hf8, Nat.zero_add]
      have s9 : anf (b9 x y) (v + 1) 0 = (f9 || b9 x y v) := by rw [anf_snoc, hf9, Nat.zero_add]
      have s10 : anf (m10 x y) (v + 1) 0 = (f10 || m10 x y v) := by rw [anf_snoc, hf10, Nat.zero_add]
      have s11 : anf (m11 T x y) (v + 1) 0 = (f11 || m11 T x y v) := by rw [anf_snoc, hf11, Nat.zero_add]
      have s12 : anf (m12 T x y) (v + 1) 0 = (f12 || m12 T x y v) := by rw [anf_snoc, hf12, Nat.zero_add]
      -- on to the next voice
      have k213 : ∀ g8 g9 g10 g11 g12 : Bool, g8 = (f8 || b8 x y v) → g9 = (f9 || b9 x y v) → g10 = (f10 || m10 x y v) → g11 = (f11 || m11 T x y v) → g12 = (f12 || m12 T x y v) → ∀ o10 o11 o12 o13, J 213 0 0 [some (.ref 117), some (.int (nI s)), some (.int (nI t)), some (.int (nI (chd x))), some (.int (nI (chd y))), some (.int (br6 (b7 x y) g8 g9 g10 g11 g12)), some (.int (nI v)), some (.int (nI (pit x v))), some (.int (nI (pit y v))), some (.int (nI (dst (pit y v) (pit x v)))), o10, o11, o12, o13] [] (st_h z) := by
        intro g8 g9 g10 g11 g12 q8 q9 q10 q11 q12 o10 o11 o12 o13
        refine ri_go hJ [20] 90 213 rfl ?_
        have := ih (v + 1) (by omega) (some (.int (nI (pit x v)))) (some (.int (nI (pit y v)))) (some (.int (nI (dst (pit y v) (pit x v))))) o10 o11 o12 o13
        rw [← e1, s8, s9, s10, s11, s12, ← q8, ← q9, ← q10, ← q11, ← q12] at this
        exact this
      -- rule 12
      have k187 : ∀ g8 g9 g10 g11 : Bool, g8 = (f8 || b8 x y v) → g9 = (f9 || b9 x y v) → g10 = (f10 || m10 x y v) → g11 = (f11 || m11 T x y v) → ∀ o10 o11 o12 o13, J 187 0 0 [some (.ref 117), some (.int (nI s)), some (.int (nI t)), some (.int (nI (chd x))), some (.int (nI (chd y))), some (.int (br6 (b7 x y) g8 g9 g10 g11 f12)), some (.int (nI v)), some (.int (nI (pit x v))), some (.int (nI (pit y v))), some (.int (nI (dst (pit y v) (pit x v)))), o10, o11, o12, o13] [] (st_h z) := by
        intro g8 g9 g10 g11 q8 q9 q10 q11 o10 o11 o12 o13
        have pm1 : nI (pit x v) - 1 = nI (pit x v - 1) := by
          have := (pit_lt x v).2
          exact nI_sub1 (by omega)
        have pm2 : nI (pit x v) - 2 = nI (pit x v - 2) := by
          have := (pit_lt x v).2
          exact pk_sub (b := 2) (by omega)
        have no : m12 T x y v = false → ∀ o10 o11 o12 o13, J 213 0 0 [some (.ref 117), some (.int (nI s)), some (.int (nI t)), some (.int (nI (chd x))), some (.int (nI (chd y))), some (.int (br6 (b7 x y) g8 g9 g10 g11 f12)), some (.int (nI v)), some (.int (nI (pit x v))), some (.int (nI (pit y v))), some (.int (nI (dst (pit y v) (pit x v)))), o10, o11, o12, o13] [] (st_h z) := fun h => k213 g8 g9 g10 g11 f12 q8 q9 q10 q11 (by rw [h, Bool.or_false])
        refine ri_go hJ [213] 90 187 rfl ?_
        refine ⟨fun q => no ?_ _ _ _ _, fun q => ⟨_, e10_memberOf l z T hW hM (c := chd x) (p := pit x v) cx (by omega), ?_⟩⟩
        · have q : nI (chd x) = nI (chd y) := q
          rw [nn_eq (by omega) (by omega)] at q
          unfold m12; rw [eq_b q]; rfl
        · rintro r h' ⟨rfl, rfl⟩
          have q : ¬ nI (chd x) = nI (chd y) := q
          rw [nn_eq (by omega) (by omega)] at q
          refine ⟨fun q2 => no ?_ _ _ _ _, fun q2 => ⟨fun q3 => no ?_ _ _ _ _, fun q3 => ⟨fun q4 => no ?_ _ _ _ _, fun q4 => ⟨fun q5 => no ?_ _ _ _ _, fun q5 => ?_⟩⟩⟩⟩
          · have q2 : ¬ nmo (tmof T (chd x) (pit x v)) = nI 3 := q2
            rw [nmo_k (by decide)] at q2
            unfold m12; rw [ne_b q2]; simp
          · have q3 : nI (pit y v) = nI (pit x v) := q3
            rw [nn_eq (by omega) (by omega)] at q3
            unfold m12; rw [q3]; simp
          · have q4 : nI (pit y v) = nI (pit x v) - 1 := q4
            rw [pm1, nn_eq (by omega) (by omega)] at q4
            unfold m12; rw [decide_eq_true (show pit y v ≤ pit x v by omega), decide_eq_true (show pit x v - pit y v ≤ 2 by omega)]; simp
          · have q5 : nI (pit y v) = nI (pit x v) - 2 := q5
            rw [pm2, nn_eq (by omega) (by omega)] at q5
            unfold m12; rw [decide_eq_true (show pit y v ≤ pit x v by omega), decide_eq_true (show pit x v - pit y v ≤ 2 by omega)]; simp
          · have q2 : nmo (tmof T (chd x) (pit x v)) = nI 3 := Decidable.not_not.mp q2
            rw [nmo_k (by decide)] at q2
            have q3 : ¬ nI (pit y v) = nI (pit x v) := q3
            rw [nn_eq (by omega) (by omega)] at q3
            have q4 : ¬ nI (pit y v) = nI (pit x v) - 1 := q4
            rw [pm1, nn_eq (by omega) (by omega)] at q4
            have q5 : ¬ nI (pit y v) = nI (pit x v) - 2 := q5
            rw [pm2, nn_eq (by omega) (by omega)] at q5
            have := k213 g8 g9 g10 g11 true q8 q9 q10 q11 (by
              unfold m12
              have : (decide (pit y v ≤ pit x v) && decide (pit x v - pit y v ≤ 2)) = false := by
                rw [Bool.and_eq_false_iff, decide_eq_false_iff_not, decide_eq_false_iff_not]; omega
              rw [ne_b q, eq_b q2, this]; simp) o10 o11 o12 o13
            rw [← br6_12 (b7 x y) g8 g9 g10 g11 f12] at this
            exact this
      -- rule 11
      have k171 : ∀ (g8 g9 g10 ou : Bool), g8 = (f8 || b8 x y v) → g9 = (f9 || b9 x y v) → g10 = (f10 || m10 x y v) → ou = (v == 0 || v == 3) → ∀ o11 o12 o13, J 157 0 0 [some (.ref 117), some (.int (nI s)), some (.int (nI t)), some (.int (nI (chd x))), some (.int (nI (chd y))), some (.int (br6 (b7 x y) g8 g9 g10 f11 f12)), some (.int (nI v)), some (.int (nI (pit x v))), some (.int (nI (pit y v))), some (.int (nI (dst (pit y v) (pit x v)))), some (.int (zb ou)), o11, o12, o13] [] (st_h z) := by
        intro g8 g9 g10 ou q8 q9 q10 qo o11 o12 o13
        have no : m11 T x y v = false → J 187 0 0 [some (.ref 117), some (.int (nI s)), some (.int (nI t)), some (.int (nI (chd x))), some (.int (nI (chd y))), some (.int (br6 (b7 x y) g8 g9 g10 f11 f12)), some (.int (nI v)), some (.int (nI (pit x v))), some (.int (nI (pit y v))), some (.int (nI (dst (pit y v) (pit x v)))), some (.int (zb ou)), o11, o12, o13] [] (st_h z) := fun h => k187 g8 g9 g10 f11 q8 q9 q10 (by rw [h, Bool.or_false]) _ _ _ _
        have yes : m11 T x y v = true → J 187 0 0 [some (.ref 117), some (.int (nI s)), some (.int (nI t)), some (.int (nI (chd x))), some (.int (nI (chd y))), some (.int (br6 (b7 x y) g8 g9 g10 f11 f12 ||| 2048)), some (.int (nI v)), some (.int (nI (pit x v))), some (.int (nI (pit y v))), some (.int (nI (dst (pit y v) (pit x v)))), some (.int (zb ou)), o11, o12, o13] [] (st_h z) := fun h => by
          rw [br6_11]
          exact k187 g8 g9 g10 true q8 q9 q10 (by rw [h, Bool.or_true]) _ _ _ _
        have k171 : (chd x == 4 || (chd x == 6 || chd x == 7)) = true → (chd y == 0 || chd y == 5) = true → J 171 0 0 [some (.ref 117), some (.int (nI s)), some (.int (nI t)), some (.int (nI (chd x))), some (.int (nI (chd y))), some (.int (br6 (b7 x y) g8 g9 g10 f11 f12)), some (.int (nI v)), some (.int (nI (pit x v))), some (.int (nI (pit y v))), some (.int (nI (dst (pit y v) (pit x v)))), some (.int (zb ou)), o11, o12, o13] [] (st_h z) := by
          intro ha hb
          have hdl := dgo_lt T (pit x v)
          refine ri_go hJ [187] 90 171 rfl ?_
          refine ⟨fun q => no ?_, fun q => ⟨_, e10_degreeOf l z T hW hM (p := pit x v) (by omega), ?_⟩⟩
          · have q := zb_0.mp q
            rw [qo] at q
            unfold m11; rw [q]; simp
          · rintro r h' ⟨rfl, rfl⟩
            have q := zb_1.mp q
            rw [qo] at q
            refine ⟨fun q2 => no ?_, fun q2 => ⟨fun q3 => no ?_, fun q3 => yes ?_⟩⟩
            · have q2 : ¬ nI (dgo T (pit x v)) = nI 11 := q2
              rw [nn_eq (by omega) (by decide), dgo_11 h0] at q2
              unfold m11 b11v
              rw [ne_b (show ¬ pit x v % 12 = (T 8 0 + 11) % 12 from q2)]; simp
            · have q3 : nI (pit y v) = nI (pit x v) + 1 := q3
              rw [nI_1, nn_eq (by omega) (by omega)] at q3
              unfold m11 b11v
              rw [eq_b q3]; simp
            · have q2 : nI (dgo T (pit x v)) = nI 11 := Decidable.not_not.mp q2
              rw [nn_eq (by omega) (by decide), dgo_11 h0] at q2
              have q3 : ¬ nI (pit y v) = nI (pit x v) + 1 := q3
              rw [nI_1, nn_eq (by omega) (by omega)] at q3
              unfold m11 b11v
              rw [ha, hb, q, eq_b (show pit x v % 12 = (T 8 0 + 11) % 12 from q2), ne_b q3]; rfl
        have k166 : (chd x == 4 || (chd x == 6 || chd x == 7)) = true → J 166 0 0 [some (.ref 117), some (.int (nI s)), some (.int (nI t)), some (.int (nI (chd x))), some (.int (nI (chd y))), some (.int (br6 (b7 x y) g8 g9 g10 f11 f12)), some (.int (nI v)), some (.int (nI (pit x v))), some (.int (nI (pit y v))), some (.int (nI (dst (pit y v) (pit x v)))), some (.int (zb ou)), o11, o12, o13] [] (st_h z) := by
          intro ha
          refine ri_go hJ [187, 171] 90 166 rfl ?_
          refine ⟨fun q => k171 ha ?_, fun q => ⟨fun q2 => no ?_, fun q2 => k171 ha ?_⟩⟩
          · have q : nI (chd y) = nI 0 := q
            rw [cny 0 (by decide)] at q
            rw [q]; rfl
          · have q : ¬ nI (chd y) = nI 0 := q
            have q2 : ¬ nI (chd y) = nI 5 := q2
            rw [cny 0 (by decide)] at q
            rw [cny 5 (by decide)] at q2
            unfold m11; rw [ne_b q, ne_b q2]; simp
          · have q2 : nI (chd y) = nI 5 := Decidable.not_not.mp q2
            rw [cny 5 (by decide)] at q2
            rw [q2]; rfl
        refine ri_go hJ [187, 166] 90 157 rfl ?_
        refine ⟨fun q => k166 ?_, fun q => ⟨fun q2 => k166 ?_, fun q2 => ⟨fun q3 => no ?_, fun q3 => k166 ?_⟩⟩⟩
        · have q : nI (chd x) = nI 4 := q
          rw [cnx 4 (by decide)] at q
          rw [q]; rfl
        · have q2 : nI (chd x) = nI 6 := q2
          rw [cnx 6 (by decide)] at q2
          rw [q2]; rfl
        · have q : ¬ nI (chd x) = nI 4 := q
          have q2 : ¬ nI (chd x) = nI 6 := q2
          have q3 : ¬ nI (chd x) = nI 7 := q3
          rw [cnx 4 (by decide)] at q
          rw [cnx 6 (by decide)] at q2
          rw [cnx 7 (by decide)] at q3
          unfold m11; rw [ne_b q, ne_b q2, ne_b q3]; rfl
        · have q3 : nI (chd x) = nI 7 := Decidable.not_not.mp q3
          rw [cnx 7 (by decide)] at q3
          rw [q3]; rfl
      have k148 : ∀ (g8 g9 g10 : Bool), g8 = (f8 || b8 x y v) → g9 = (f9 || b9 x y v) → g10 = (f10 || m10 x y v) → ∀ o10 o11 o12 o13, J 148 0 0 [some (.ref 117), some (.int (nI s)), some (.int (nI t)), some (.int (nI (chd x))), some (.int (nI (chd y))), some (.int (br6 (b7 x y) g8 g9 g10 f11 f12)), some (.int (nI v)), some (.int (nI (pit x v))), some (.int (nI (pit y v))), some (.int (nI (dst (pit y v) (pit x v)))), o10, o11, o12, o13] [] (st_h z) := by
        intro g8 g9 g10 q8 q9 q10 o10 o11 o12 o13
        refine ri_go hJ [157] 90 148 rfl ?_
        refine ⟨fun q => k171 g8 g9 g10 true q8 q9 q10 ?_ _ _ _, fun q => ⟨fun q2 => k171 g8 g9 g10 false q8 q9 q10 ?_ _ _ _, fun q2 => k171 g8 g9 g10 true q8 q9 q10 ?_ _ _ _⟩⟩
        · have q : nI v = nI 0 := q
          rw [nn_eq (by omega) (by decide)] at q
          rw [q]; rfl
        · have q : ¬ nI v = nI 0 := q
          rw [nn_eq (by omega) (by decide)] at q
          have q2 : ¬ nI v = nI 3 := q2
          rw [nn_eq (by omega) (by decide)] at q2
          rw [ne_b q, ne_b q2]; rfl
        · have q2 : nI v = nI 3 := Decidable.not_not.mp q2
          rw [nn_eq (by omega) (by decide)] at q2
          rw [q2]; rfl
      -- rule 10
      have k115 : ∀ (g8 g9 : Bool), g8 = (f8 || b8 x y v) → g9 = (f9 || b9 x y v) → ∀ o10 o11 o12 o13, J 115 0 0 [some (.ref 117), some (.int (nI s)), some (.int (nI t)), some (.int (nI (chd x))), some (.int (nI (chd y))), some (.int (br6 (b7 x y) g8 g9 f10 f11 f12)), some (.int (nI v)), some (.int (nI (pit x v))), some (.int (nI (pit y v))), some (.int (nI (dst (pit y v) (pit x v)))), o10, o11, o12, o13] [] (st_h z) := by
        intro g8 g9 q8 q9 o10 o11 o12 o13
        have no : m10 x y v = false → J 148 0 0 [some (.ref 117), some (.int (nI s)), some (.int (nI t)), some (.int (nI (chd x))), some (.int (nI (chd y))), some (.int (br6 (b7 x y) g8 g9 f10 f11 f12)), some (.int (nI v)), some (.int (nI (pit x v))), some (.int (nI (pit y v))), some (.int (nI (dst (pit y v) (pit x v)))), o10, o11, o12, o13] [] (st_h z) := fun h => k148 g8 g9 f10 q8 q9 (by rw [h, Bool.or_false]) _ _ _ _
        have yes : m10 x y v = true → J 148 0 0 [some (.ref 117), some (.int (nI s)), some (.int (nI t)), some (.int (nI (chd x))), some (.int (nI (chd y))), some (.int (br6 (b7 x y) g8 g9 f10 f11 f12 ||| 1024)), some (.int (nI v)), some (.int (nI (pit x v))), some (.int (nI (pit y v))), some (.int (nI (dst (pit y v) (pit x v)))), o10, o11, o12, o13] [] (st_h z) := fun h => by
          rw [br6_10]
          exact k148 g8 g9 true q8 q9 (by rw [h, Bool.or_true]) _ _ _ _
        have k129 : ¬ (0 < v ∧ pit x (v - 1) < pit y v) → J 129 0 0 [some (.ref 117), some (.int (nI s)), some (.int (nI t)), some (.int (nI (chd x))), some (.int (nI (chd y))), some (.int (br6 (b7 x y) g8 g9 f10 f11 f12)), some (.int (nI v)), some (.int (nI (pit x v))), some (.int (nI (pit y v))), some (.int (nI (dst (pit y v) (pit x v)))), o10, o11, o12, o13] [] (st_h z) := by
          intro hno
          have ef : (decide (0 < v) && decide (pit x (v - 1) < pit y v)) = false := by
            rw [Bool.and_eq_false_iff, decide_eq_false_iff_not, decide_eq_false_iff_not]; omega
          refine ri_go hJ [148] 90 129 rfl ?_
          refine ⟨fun q => no ?_, fun q => ?_⟩
          · have q : nI 3 ≤ nI v := q
            rw [nn_le (by decide) (by omega)] at q
            unfold m10; rw [ef, decide_eq_false (show ¬ v < 3 by omega)]; rfl
          · have q : ¬ nI 3 ≤ nI v := q
            rw [nn_le (by decide) (by omega)] at q
            have e : 4 * nI s + nI v + 1 = 4 * nI s + nI (v + 1) := by
              have h4 : 4 * nI s + nI v = nI (4 * s + v) := ix4d
              have h5 : 4 * nI s + nI (v + 1) = nI (4 * s + (v + 1)) := ix4d
              rw [h4, h5, nI_1]; rfl
            have g := gx (v + 1) (by omega)
            rw [← e] at g
            have pxv1 := px (v + 1)
            refine ⟨g.1, fun q2 => no ?_, fun q2 => yes ?_⟩
            · have q2 : z.2.1 114 (4 * nI s + nI v + 1).toNatClampNeg ≤ nI (pit y v) := q2
              rw [g.2, nn_le (by omega) (by omega)] at q2
              unfold m10; rw [ef, decide_eq_false (show ¬ pit y v < pit x (v + 1) by omega)]; simp
            · have q2 : ¬ z.2.1 114 (4 * nI s + nI v + 1).toNatClampNeg ≤ nI (pit y v) := q2
              rw [g.2, nn_le (by omega) (by omega)] at q2
              unfold m10; rw [decide_eq_true (show v < 3 by omega), decide_eq_true (show pit y v < pit x (v + 1) by omega)]; simp
        refine ri_go hJ [148, 129, 144] 90 115 rfl ?_
        refine ⟨fun q => k129 ?_, fun q => ?_⟩
        · have q : nI v ≤ nI 0 := q
          rw [nn_le (by omega) (by decide)] at q
          omega
        · have q : ¬ nI v ≤ nI 0 := q
          rw [nn_le (by omega) (by decide)] at q
          have e : 4 * nI s + nI v - 1 = 4 * nI s + nI (v - 1) := by
            have h4 : 4 * nI s + nI v = nI (4 * s + v) := ix4d
            have h5 : 4 * nI s + nI (v - 1) = nI (4 * s + (v - 1)) := ix4d
            rw [h4, h5, nI_sub1 (by omega)]
            exact congrArg nI (by omega)
          have g := gx (v - 1) (by omega)
          rw [← e] at g
          have pxv1 := px (v - 1)
          have k144 : m10 x y v = true → J 144 0 0 [some (.ref 117), some (.int (nI s)), some (.int (nI t)), some (.int (nI (chd x))), some (.int (nI (chd y))), some (.int (br6 (b7 x y) g8 g9 f10 f11 f12)), some (.int (nI v)), some (.int (nI (pit x v))), some (.int (nI (pit y v))), some (.int (nI (dst (pit y v) (pit x v)))), o10, o11, o12, o13] [] (st_h z) := fun h => by
            refine ri_go hJ [148] 90 144 rfl ?_
            exact yes h
          refine ⟨g.1, fun q2 => k144 ?_, fun q2 => k129 ?_⟩
          · have q2 : z.2.1 114 (4 * nI s + nI v - 1).toNatClampNeg < nI (pit y v) := q2
            rw [g.2, nn_lt (by omega) (by omega)] at q2
            unfold m10; rw [decide_eq_true (show 0 < v by omega), decide_eq_true q2]; simp
          · have q2 : ¬ z.2.1 114 (4 * nI s + nI v - 1).toNatClampNeg < nI (pit y v) := q2
            rw [g.2, nn_lt (by omega) (by omega)] at q2
            exact fun h => q2 h.2
      -- rule 9
      have k99 : ∀ g8 : Bool, g8 = (f8 || b8 x y v) → ∀ o10 o11 o12 o13, J 99 0 0 [some (.ref 117), some (.int (nI s)), some (.int (nI t)), some (.int (nI (chd x))), some (.int (nI (chd y))), some (.int (br6 (b7 x y) g8 f9 f10 f11 f12)), some (.int (nI v)), some (.int (nI (pit x v))), some (.int (nI (pit y v))), some (.int (nI (dst (pit y v) (pit x v)))), o10, o11, o12, o13] [] (st_h z) := by
        intro g8 q8 o10 o11 o12 o13
        have dn : ∀ k, k < 100 → ((nI (dst (pit y v) (pit x v)) = nI k) = (dst (pit y v) (pit x v) = k)) := fun k hk => nn_eq hds (by omega)
        have k111 : b9 x y v = true → J 111 0 0 [some (.ref 117), some (.int (nI s)), some (.int (nI t)), some (.int (nI (chd x))), some (.int (nI (chd y))), some (.int (br6 (b7 x y) g8 f9 f10 f11 f12)), some (.int (nI v)), some (.int (nI (pit x v))), some (.int (nI (pit y v))), some (.int (nI (dst (pit y v) (pit x v)))), o10, o11, o12, o13] [] (st_h z) := fun h => by
          refine ri_go hJ [115] 90 111 rfl ?_
          have := k115 g8 true q8 (by rw [h, Bool.or_true]) o10 o11 o12 o13
          rw [← br6_9 (b7 x y) g8 f9 f10 f11 f12] at this
          exact this
        refine ri_go hJ [115, 111] 90 99 rfl ?_
        refine ⟨fun q => k111 ?_, fun q => ⟨fun q2 => k111 ?_, fun q2 => ⟨fun q3 => k111 ?_, fun q3 => ⟨fun q4 => k115 g8 f9 q8 ?_ _ _ _ _, fun q4 => k111 ?_⟩⟩⟩⟩
        · have q : nI (dst (pit y v) (pit x v)) = nI 6 := q
          rw [dn 6 (by decide)] at q
          unfold b9; rw [eq_b q]; simp
        · have q2 : nI (dst (pit y v) (pit x v)) = nI 10 := q2
          rw [dn 10 (by decide)] at q2
          unfold b9; rw [eq_b q2]; simp
        · have q3 : nI (dst (pit y v) (pit x v)) = nI 11 := q3
          rw [dn 11 (by decide)] at q3
          unfold b9; rw [eq_b q3]; simp
        · have q : ¬ nI (dst (pit y v) (pit x v)) = nI 6 := q
          have q2 : ¬ nI (dst (pit y v) (pit x v)) = nI 10 := q2
          have q3 : ¬ nI (dst (pit y v) (pit x v)) = nI 11 := q3
          have q4 : nI (dst (pit y v) (pit x v)) ≤ nI 12 := q4
          rw [dn 6 (by decide)] at q
          rw [dn 10 (by decide)] at q2
          rw [dn 11 (by decide)] at q3
          rw [nn_le hds (by decide)] at q4
          unfold b9; rw [ne_b q, ne_b q2, ne_b q3, decide_eq_false (by omega)]; simp
        · have q4 : ¬ nI (dst (pit y v) (pit x v)) ≤ nI 12 := q4
          rw [nn_le hds (by decide)] at q4
          unfold b9; rw [decide_eq_true (by omega)]; simp
      -- rule 8
      have inner : ∀ m w, m + w = 4 → v < w → ∀ g8 : Bool, g8 = (f8 || anf (b8p x y v) (w - (v + 1)) (v + 1)) → ∀ o11 o12 o13, J 50 0 0 [some (.ref 117), some (.int (nI s)), some (.int (nI t)), some (.int (nI (chd x))), some (.int (nI (chd y))), some (.int (br6 (b7 x y) g8 f9 f10 f11 f12)), some (.int (nI v)), some (.int (nI (pit x v))), some (.int (nI (pit y v))), some (.int (nI (dst (pit y v) (pit x v)))), some (.int (nI w)), o11, o12, o13] [] (st_h z) := by
        intro m
        induction m with
        | zero =>
          intro w hw hvw g8 q8 o11 o12 o13
          have hw4 : w = 4 := by omega
          subst hw4
          refine ri_go hJ [99] 90 50 rfl ?_
          refine ⟨fun _ => k99 g8 ?_ _ _ _ _, fun c => absurd (by decide) c⟩
          rw [q8, show 4 - (v + 1) = 3 - v by omega]; rfl
        | succ m ihm =>
          intro w hw hvw g8 q8 o11 o12 o13
          have ew := nI_1 w
          have pxw := px w
          have pyw := py w
          have dxw : pit x w ≤ pit x v := hx.2.2 v w (by omega) (by omega)
          have dyw : pit y w ≤ pit y v := hy.2.2 v w (by omega) (by omega)
          have hxw := gx w (by omega)
          have hyw := gy w (by omega)
          have sn : anf (b8p x y v) (w + 1 - (v + 1)) (v + 1) = (anf (b8p x y v) (w - (v + 1)) (v + 1) || b8p x y v w) := by
            rw [show w + 1 - (v + 1) = (w - (v + 1)) + 1 by omega, anf_snoc, show v + 1 + (w - (v + 1)) = w by omega]
          have k97 : ∀ h8 : Bool, h8 = (g8 || b8p x y v w) → ∀ o11 o12 o13, J 97 0 0 [some (.ref 117), some (.int (nI s)), some (.int (nI t)), some (.int (nI (chd x))), some (.int (nI (chd y))), some (.int (br6 (b7 x y) h8 f9 f10 f11 f12)), some (.int (nI v)), some (.int (nI (pit x v))), some (.int (nI (pit y v))), some (.int (nI (dst (pit y v) (pit x v)))), some (.int (nI w)), o11, o12, o13] [] (st_h z) := by
            intro h8 qh o11 o12 o13
            refine ri_go hJ [50] 90 97 rfl ?_
            have := ihm (w + 1) (by omega) (by omega) h8 (by rw [qh, q8, sn, Bool.or_assoc]) o11 o12 o13
            rw [← ew] at this
            exact this
          have no : b8p x y v w = false → ∀ o11 o12 o13, J 97 0 0 [some (.ref 117), some (.int (nI s)), some (.int (nI t)), some (.int (nI (chd x))), some (.int (nI (chd y))), some (.int (br6 (b7 x y) g8 f9 f10 f11 f12)), some (.int (nI v)), some (.int (nI (pit x v))), some (.int (nI (pit y v))), some (.int (nI (dst (pit y v) (pit x v)))), some (.int (nI w)), o11, o12, o13] [] (st_h z) := fun h => k97 g8 (by rw [h, Bool.or_false])
          have k93 : b8p x y v w = true → ∀ o11 o12 o13, J 93 0 0 [some (.ref 117), some (.int (nI s)), some (.int (nI t)), some (.int (nI (chd x))), some (.int (nI (chd y))), some (.int (br6 (b7 x y) g8 f9 f10 f11 f12)), some (.int (nI v)), some (.int (nI (pit x v))), some (.int (nI (pit y v))), some (.int (nI (dst (pit y v) (pit x v)))), some (.int (nI w)), o11, o12, o13] [] (st_h z) := fun h o11 o12 o13 => by
            refine ri_go hJ [97] 90 93 rfl ?_
            have := k97 true (by rw [h, Bool.or_true]) o11 o12 o13
            rw [← br6_8 (b7 x y) g8 f9 f10 f11 f12] at this
            exact this
          have ax := e10_apart l (st_h z) (n := pit x v - pit x w) (by omega)
          rw [← pk_sub dxw] at ax
          have ay := e10_apart l (st_h z) (n := pit y v - pit y w) (by omega)
          rw [← pk_sub dyw] at ay
          have mx : (pit x v - pit x w) % 12 < 12 := Nat.mod_lt _ (by decide)
          have my : (pit y v - pit y w) % 12 < 12 := Nat.mod_lt _ (by decide)
          have k71 : ∀ o13, J 71 0 0 [some (.ref 117), some (.int (nI s)), some (.int (nI t)), some (.int (nI (chd x))), some (.int (nI (chd y))), some (.int (br6 (b7 x y) g8 f9 f10 f11 f12)), some (.int (nI v)), some (.int (nI (pit x v))), some (.int (nI (pit y v))), some (.int (nI (dst (pit y v) (pit x v)))), some (.int (nI w)), some (.int (nI (pit x w))), some (.int (nI (pit y w))), o13] [] (st_h z) := by
            intro o13
            refine ri_go hJ [97, 93] 90 71 rfl ?_
            refine ⟨_, ax, ?_⟩
            rintro r h' ⟨rfl, rfl⟩
            refine ⟨fun q => no ?_ _ _ _, fun q => ⟨fun q2 => no ?_ _ _ _, fun q2 => ⟨_, ay, ?_⟩⟩⟩
            · have q : nI (pit x v) = nI (pit y v) := q
              rw [nn_eq (by omega) (by omega)] at q
              unfold b8p; rw [eq_b q]; simp
            · have q2 : nI (pit x w) = nI (pit y w) := q2
              rw [nn_eq (by omega) (by omega)] at q2
              unfold b8p; rw [eq_b q2]; simp
            · rintro r h' ⟨rfl, rfl⟩
              have q : ¬ nI (pit x v) = nI (pit y v) := q
              rw [nn_eq (by omega) (by omega)] at q
              have q2 : ¬ nI (pit x w) = nI (pit y w) := q2
              rw [nn_eq (by omega) (by omega)] at q2
              refine ⟨fun q3 => no ?_ _ _ _, fun q3 => ⟨fun q4 => k93 ?_ _ _ _, fun q4 => ⟨fun q5 => no ?_ _ _ _, fun q5 => k93 ?_ _ _ _⟩⟩⟩
              · have q3 : ¬ nI ((pit x v - pit x w) % 12) = nI ((pit y v - pit y w) % 12) := q3
                rw [nn_eq (by omega) (by omega)] at q3
                unfold b8p; rw [ne_b q3]; simp
              · have q3 : nI ((pit x v - pit x w) % 12) = nI ((pit y v - pit y w) % 12) := Decidable.not_not.mp q3
                rw [nn_eq (by omega) (by omega)] at q3
                have q4 : nI ((pit x v - pit x w) % 12) = nI 0 := q4
                rw [nn_eq (by omega) (by decide)] at q4
                unfold b8p; rw [eq_b q4, eq_b q3, ne_b q, ne_b q2]; rfl
              · have q4 : ¬ nI ((pit x v - pit x w) % 12) = nI 0 := q4
                rw [nn_eq (by omega) (by decide)] at q4
                have q5 : ¬ nI ((pit x v - pit x w) % 12) = nI 7 := q5
                rw [nn_eq (by omega) (by decide)] at q5
                unfold b8p; rw [ne_b q4, ne_b q5]; rfl
              · have q3 : nI ((pit x v - pit x w) % 12) = nI ((pit y v - pit y w) % 12) := Decidable.not_not.mp q3
                rw [nn_eq (by omega) (by omega)] at q3
                have q5 : nI ((pit x v - pit x w) % 12) = nI 7 := Decidable.not_not.mp q5
                rw [nn_eq (by omega) (by decide)] at q5
                unfold b8p; rw [eq_b q5, eq_b q3, ne_b q, ne_b q2]; simp
          refine ri_go hJ [71] 90 50 rfl ?_
          refine ⟨fun c => absurd c (nI_ge (a := w) (b := 4) (by omega) (by decide)), fun _ => ⟨hxw.1, hyw.1, ?_⟩⟩
          have := k71 o13
          rw [← hxw.2, ← hyw.2] at this
          exact this
      have hxv := gx v hv4
      have hyv := gy v hv4
      have k41 : ∀ o9 o10 o11 o12 o13, J 41 0 0 [some (.ref 117), some (.int (nI s)), some (.int (nI t)), some (.int (nI (chd x))), some (.int (nI (chd y))), some (.int (br6 (b7 x y) f8 f9 f10 f11 f12)), some (.int (nI v)), some (.int (nI (pit x v))), some (.int (nI (pit y v))), o9, o10, o11, o12, o13] [] (st_h z) := by
        intro o9 o10 o11 o12 o13
        refine ri_go hJ [50] 90 41 rfl ?_
        refine ⟨_, e10_sizeN l _ (a := pit y v) (b := pit x v) (by omega) (by omega), ?_⟩
        rintro r h' ⟨rfl, rfl⟩
        have := inner (3 - v) (v + 1) (by omega) (by omega) f8 (by rw [Nat.sub_self]; show f8 = (f8 || false); rw [Bool.or_false]) o11 o12 o13
        rw [← e1] at this
        exact this
      refine ri_go hJ [41] 90 20 rfl ?_
      refine ⟨fun c => absurd c (nI_ge (a := v) (b := 4) (by omega) (by decide)), fun _ => ⟨hxv.1, hyv.1, ?_⟩⟩
      have := k41 o9 o10 o11 o12 o13
      rw [← hxv.2, ← hyv.2] at this
      exact this
  have k18 : ∀ o6 o7 o8 o9 o10 o11 o12 o13, J 18 0 0 [some (.ref 117), some (.int (nI s)), some (.int (nI t)), some (.int (nI (chd x))), some (.int (nI (chd y))), some (.int (br6 (b7 x y) false false false false false)), o6, o7, o8, o9, o10, o11, o12, o13] [] (st_h z) := by
    intro o6 o7 o8 o9 o10 o11 o12 o13
    refine ri_go hJ [20] 90 18 rfl ?_
    exact loop 4 0 rfl _ _ _ _ _ _ _
  have k10 : J 10 0 0 [some (.ref 117), some (.int (nI s)), some (.int (nI t)), some (.int (nI (chd x))), some (.int (nI (chd y))), none, none, none, none, none, none, none, none, none] [] (st_h z) := by
    refine ri_go hJ [18] 90 10 rfl ?_
    refine ⟨_, e10_unitsN l _ cx cy, ?_⟩
    rintro r h' ⟨rfl, rfl⟩
    refine ⟨fun q => ?_, fun q => ?_⟩
    · have q : (0 : Int32) ≤ nU (unt (chd x) (chd y)) := q
      have hb : b7 x y = false := by
        unfold b7
        exact ne_b (fun e => by rw [e] at q; exact absurd q (by decide))
      have := k18 none none none none none none none none
      rw [hb] at this
      exact this
    · have q : ¬ (0 : Int32) ≤ nU (unt (chd x) (chd y)) := q
      have hb : b7 x y = true := by
        unfold b7
        refine eq_b (Decidable.byContradiction fun e => q ?_)
        unfold nU
        rw [if_neg e]
        have hu : ∀ a, a < 13 → ∀ b, b < 13 → unt a b < 10 := by decide +kernel
        have := hu _ cx _ cy
        exact nI_pos' (by omega)
      have := k18 none none none none none none none none
      rw [hb] at this
      exact this
  refine ri_run_ok hJ [10] 90 0 0 0 _ _ _ ?_
  refine ⟨vp_in_nI (by omega) (by decide), vp_in_nI (by omega) (by decide), ?_⟩
  rw [← ex, ← ey] at k10
  exact k10
