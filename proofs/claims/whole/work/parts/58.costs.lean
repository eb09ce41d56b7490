/-! Costs -/
def mofF (T : tT) (c p : Nat) : Nat → Nat → Nat
  | 0, _ => 4
  | n + 1, k => if tmem T c k = p % 12 then k else mofF T c p n (k + 1)
theorem mofF_ok (T : tT) (c p : Nat) : mofF T c p 4 0 = tmof T c p := rfl
def iu (k : Nat) : Nat := [0, 1, 6, 2].getD k 0
theorem n9_eq {m p : Nat} (h : m = 99 ∨ m < 12) (hp : p < 12) : (n9 m = nI p) = (m = p) := by
  unfold n9
  by_cases hm : m = 99
  · rw [if_pos hm]
    exact propext ⟨fun q => absurd q.symm (nI_m2 (by omega)), fun q => by omega⟩
  · rw [if_neg hm]; exact nn_eq (by omega) (by omega)
theorem inv_st : ∀ k, k < 4 → st_INVERSION_UNITS.getD (nI k).toNatClampNeg 0 = nI (iu k) := by decide +kernel
theorem e7_inversionUnits (l : Launch) (z : st_T) (T : tT) {x : Nat} (hR : RH z T) (hx : x < 2 ^ 28) (hc : chd x < 13) : ri_Ev l y7_inversionUnits w7_inversionUnits r7_inversionUnits 0 0 [.ref 92, .int (nI x)] (st_h z) (ri_is (nI (iu (tmof T (chd x) (pit x 3)))) (st_h z)) := by
  refine ri_ev (t7_inversionUnits l _) rfl rfl rfl (Nat.le_of_ble_eq_true rfl) rfl (z7_inversionUnits l _) (fun J hJ => ?_)
  have rx := Nat.mod_lt (pit x 3) (show 0 < 12 by decide)
  have loop : ∀ n k, n + k = 4 → tmof T (chd x) (pit x 3) = mofF T (chd x) (pit x 3) n k → J 8 0 0 [some (.ref 92), some (.int (nI x)), some (.int (nI (pit x 3 % 12))), some (.int (nI k))] [] (st_h z) := by
    intro n
    induction n with
    | zero =>
      intro k hk e
      have hk4 : k = 4 := by omega
      subst hk4
      refine ri_go hJ [8] 60 8 rfl ?_
      exact ⟨fun _ => ⟨by rw [e]; rfl, rfl⟩, fun c => absurd (by decide) c⟩
    | succ n ih =>
      intro k hk e
      have e1 := nI_1 k
      refine ri_go hJ [8] 60 8 rfl ?_
      refine ⟨fun c => absurd c (nI_ge (a := k) (b := 4) (by omega) (by decide)), fun _ => ⟨_, e11_chordN l hx _, ?_⟩⟩
      rintro r h' ⟨rfl, rfl⟩
      refine ⟨_, e1_memberClass l z T hR hc (k := k) (by omega), ?_⟩
      rintro r h' ⟨rfl, rfl⟩
      refine ⟨fun c => ?_, fun c => ⟨vp_in_nI (N := 4) (by omega) (by decide), ?_, rfl⟩⟩
      · have c : ¬ n9 (tmem T (chd x) k) = nI (pit x 3 % 12) := c
        rw [n9_eq (tmem_lt T _ _) rx] at c
        have := ih (k + 1) (by omega) (by rw [e]; show (if _ then _ else _) = _; rw [if_neg c])
        rw [← e1] at this
        exact this
      · have c : n9 (tmem T (chd x) k) = nI (pit x 3 % 12) := Decidable.not_not.mp c
        rw [n9_eq (tmem_lt T _ _) rx] at c
        show some (Value.int (st_INVERSION_UNITS.getD (nI k).toNatClampNeg 0)) = _
        rw [inv_st k (by omega), e]
        show _ = some (Value.int (nI (iu (if _ then _ else _))))
        rw [if_pos c]
  refine ri_run_ok hJ [8] 60 0 0 0 _ _ _ ?_
  refine ⟨_, e11_pitchN l hx (v := 3) (by decide) _, ?_⟩
  rintro r h' ⟨rfl, rfl⟩
  refine ⟨by decide, ?_⟩
  have := loop 4 0 rfl rfl
  rw [← rem12 (pl31 x 3)] at this
  exact this
def uniU (x : Nat) : Nat → Nat
  | 0 => 0
  | v + 1 => uniU x v + (if pit x v = pit x (v + 1) then 1 else 0)
theorem e7_unisons (l : Launch) (h : List ri_C) {x : Nat} (hx : x < 2 ^ 28) : ri_Ev l y7_unisons w7_unisons r7_unisons 0 0 [.int (nI x)] h (ri_is (nI (uniU x 3)) h) := by
  refine ri_ev (t7_unisons l _) rfl rfl rfl (Nat.le_of_ble_eq_true rfl) rfl (z7_unisons l _) (fun J hJ => ?_)
  have loop : ∀ n v, n + v = 3 → J 4 0 0 [some (.int (nI x)), some (.int (nI (uniU x v))), some (.int (nI v))] [] h := by
    intro n
    induction n with
    | zero =>
      intro v hv
      have hv3 : v = 3 := by omega
      subst hv3
      refine ri_go hJ [4] 60 4 rfl ?_
      exact ⟨fun _ => ⟨rfl, rfl⟩, fun c => absurd (by decide) c⟩
    | succ n ih =>
      intro v hv
      have e1 := nI_1 v
      have e2 := nI_1 (uniU x v)
      have hn := ih (v + 1) (by omega)
      have ep := e11_pitchN l hx (v := v + 1) (by omega) h
      rw [← e1] at ep
      refine ri_go hJ [4] 60 4 rfl ?_
      refine ⟨fun c => absurd c (nI_ge (a := v) (b := 3) (by omega) (by decide)), fun _ => ⟨_, e11_pitchN l hx (v := v) (by omega) _, ?_⟩⟩
      rintro r h' ⟨rfl, rfl⟩
      refine ⟨_, ep, ?_⟩
      rintro r h' ⟨rfl, rfl⟩
      refine ⟨fun c => ?_, fun c => ?_⟩
      · have c : ¬ nI (pit x v) = nI (pit x (v + 1)) := c
        rw [nn_eq (pl31 _ _) (pl31 _ _)] at c
        rw [← e1, show uniU x (v + 1) = uniU x v by show _ + (if _ then _ else _) = _; rw [if_neg c]; rfl] at hn
        exact hn
      · have c : nI (pit x v) = nI (pit x (v + 1)) := Decidable.not_not.mp c
        rw [nn_eq (pl31 _ _) (pl31 _ _)] at c
        rw [← e1, show uniU x (v + 1) = uniU x v + 1 by show _ + (if _ then _ else _) = _; rw [if_pos c], ← e2] at hn
        exact hn
  exact ri_run_ok hJ [4] 60 0 0 0 _ _ _ (loop 3 0 rfl)
def cntm (T : tT) (x k : Nat) : Nat := if tmem T (chd x) k = 99 then 0 else cntc x (tmem T (chd x) k)
theorem cntc_le (x p : Nat) : cntc x p ≤ 4 := by
  unfold cntc
  repeat' split
  all_goals omega
theorem cntm_le (T : tT) (x k : Nat) : cntm T x k ≤ 4 := by
  unfold cntm
  split
  · omega
  · exact cntc_le _ _
theorem e1_timesMember (l : Launch) (z : st_T) (T : tT) {x k : Nat} (hR : RH z T) (hx : x < 2 ^ 28) (hc : chd x < 13) (hk : k < 4) : ri_Ev l y1_timesMember w1_timesMember r1_timesMember 0 0 [.ref 25, .int (nI x), .int (nI k)] (st_h z) (ri_is (nI (cntm T x k)) (st_h z)) := by
  refine ri_ev (t1_timesMember l _) rfl rfl rfl (Nat.le_of_ble_eq_true rfl) rfl (z1_timesMember l _) (fun J hJ => ?_)
  have hm := tmem_lt T (chd x) k
  refine ri_run_ok hJ [] 60 0 0 0 _ _ _ ?_
  refine ⟨_, e11_chordN l hx _, ?_⟩
  rintro r h' ⟨rfl, rfl⟩
  refine ⟨_, e1_memberClass l z T hR hc hk, ?_⟩
  rintro r h' ⟨rfl, rfl⟩
  refine ⟨fun c => ?_, fun c => ⟨?_, rfl⟩⟩
  · have c : ¬ n9 (tmem T (chd x) k) = -2 := c
    rw [n9_none hm] at c
    have e : n9 (tmem T (chd x) k) = nI (tmem T (chd x) k) := by unfold n9; rw [if_neg c]
    have et := e11_timesN l hx (p := tmem T (chd x) k) (by omega) (st_h z)
    rw [← e] at et
    refine ⟨_, et, ?_⟩
    rintro r h' ⟨rfl, rfl⟩
    refine ⟨?_, rfl⟩
    show some (Value.int (nI _)) = some (Value.int (nI (if _ then _ else _)))
    rw [if_neg c]
  · have c : n9 (tmem T (chd x) k) = -2 := Decidable.not_not.mp c
    rw [n9_none hm] at c
    show _ = some (Value.int (nI (if _ then _ else _)))
    rw [if_pos c]; rfl
theorem e7_move (l : Launch) (h : List ri_C) {x y v : Nat} (hx : x < 2 ^ 28) (hy : y < 2 ^ 28) (hv : v < 4) : ri_Ev l y7_move w7_move r7_move 0 0 [.int (nI x), .int (nI y), .int (nI v)] h (ri_is (nI (pit y v) - nI (pit x v)) h) := by
  refine ri_ev (t7_move l _) rfl rfl rfl (Nat.le_of_ble_eq_true rfl) rfl (z7_move l _) (fun J hJ => ?_)
  refine ri_run_ok hJ [] 60 0 0 0 _ _ _ ?_
  refine ⟨_, e11_pitchN l hy hv _, ?_⟩
  rintro r h' ⟨rfl, rfl⟩
  refine ⟨_, e11_pitchN l hx hv _, ?_⟩
  rintro r h' ⟨rfl, rfl⟩
  exact ⟨rfl, rfl⟩
/-- the costs of a state -/
def cst (T : tT) (x : Nat) : Nat := T 5 3 * iu (tmof T (chd x) (pit x 3)) + T 5 8 * uniU x 3 + (if cntm T x 2 = 0 then T 5 2 else 0) + (if (chd x = 0 ∨ chd x = 3 ∨ chd x = 4) ∧ 2 ≤ cntm T x 1 then T 5 6 else 0)
theorem e7_ofState (l : Launch) (z : st_T) (T : tT) {x : Nat} (hS : RS z T) (hR : RH z T) (hx : x < 2 ^ 28) (hc : chd x < 13) : ri_Ev l y7_ofState w7_ofState r7_ofState 0 0 [.ref 92, .int (nI x)] (st_h z) (ri_is (nI (cst T x)) (st_h z)) := by
  refine ri_ev (t7_ofState l _) rfl rfl rfl (Nat.le_of_ble_eq_true rfl) rfl (z7_ofState l _) (fun J hJ => ?_)
  have P : ∀ k, k < 9 → z.2.1 6 (nI k).toNatClampNeg = nI (T 5 k) := fun k hk => by rw [cl31 (by omega)]; exact hS.2.2.1 k hk
  have k61 : ∀ t, t = cst T x → ∀ o, J 61 0 0 [some (.ref 92), some (.int (nI x)), some (.int (nI t)), o] [] (st_h z) := by
    intro t e o
    refine ri_go hJ [] 90 61 rfl ?_
    exact ⟨by rw [e], rfl⟩
  have k46 : (chd x = 0 ∨ chd x = 3 ∨ chd x = 4) → ∀ t, t + (if (chd x = 0 ∨ chd x = 3 ∨ chd x = 4) ∧ 2 ≤ cntm T x 1 then T 5 6 else 0) = cst T x → J 46 0 0 [some (.ref 92), some (.int (nI x)), some (.int (nI t)), some (.int (nI (chd x)))] [] (st_h z) := by
    intro hch t e
    refine ri_go hJ [61] 90 46 rfl ?_
    refine ⟨_, e1_timesMember l z T hR hx hc (k := 1) (by decide), ?_⟩
    rintro r h' ⟨rfl, rfl⟩
    have hl := cntm_le T x 1
    refine ⟨fun c => k61 t ?_ _, fun c => ⟨vp_in_nI (n := 6) (by decide) (by decide), ?_⟩⟩
    · have c : nI (cntm T x 1) < 2 := c
      rw [show (2 : Int32) = nI 2 from rfl, nn_lt (by omega) (by decide)] at c
      rw [if_neg (by omega)] at e
      exact e
    · have c : ¬ nI (cntm T x 1) < 2 := c
      rw [show (2 : Int32) = nI 2 from rfl, nn_lt (by omega) (by decide)] at c
      rw [if_pos ⟨hch, by omega⟩] at e
      have := k61 (t + T 5 6) e (some (.int (nI (chd x))))
      rw [← nI_add, ← P 6 (by decide)] at this
      exact this
  have k35 : ∀ t, t + (if (chd x = 0 ∨ chd x = 3 ∨ chd x = 4) ∧ 2 ≤ cntm T x 1 then T 5 6 else 0) = cst T x → J 35 0 0 [some (.ref 92), some (.int (nI x)), some (.int (nI t)), none] [] (st_h z) := by
    intro t e
    have cx := chd_lt x
    refine ri_go hJ [46, 61] 90 35 rfl ?_
    refine ⟨_, e11_chordN l hx _, ?_⟩
    rintro r h' ⟨rfl, rfl⟩
    refine ⟨fun c => k46 ?_ t e, fun c => ⟨fun d => k46 ?_ t e, fun d => ⟨fun g => k61 t ?_ _, fun g => k46 ?_ t e⟩⟩⟩
    · have c : nI (chd x) = 0 := c
      rw [nk_eq (k := 0) (b := 0) rfl (by omega) (by decide)] at c
      exact Or.inl c
    · have d : nI (chd x) = 3 := d
      rw [nk_eq (k := 3) (b := 3) rfl (by omega) (by decide)] at d
      exact Or.inr (Or.inl d)
    · have c : ¬ nI (chd x) = 0 := c
      have d : ¬ nI (chd x) = 3 := d
      have g : ¬ nI (chd x) = 4 := g
      rw [nk_eq (k := 0) (b := 0) rfl (by omega) (by decide)] at c
      rw [nk_eq (k := 3) (b := 3) rfl (by omega) (by decide)] at d
      rw [nk_eq (k := 4) (b := 4) rfl (by omega) (by decide)] at g
      rw [if_neg (fun q => by rcases q.1 with q | q | q <;> omega)] at e
      exact e
    · have g : nI (chd x) = 4 := Decidable.not_not.mp g
      rw [nk_eq (k := 4) (b := 4) rfl (by omega) (by decide)] at g
      exact Or.inr (Or.inr g)
  refine ri_run_ok hJ [35] 90 0 0 0 _ _ _ ?_
  refine ⟨vp_in_nI (n := 3) (by decide) (by decide), _, e7_inversionUnits l z T hR hx hc, ?_⟩
  rintro r h' ⟨rfl, rfl⟩
  refine ⟨vp_in_nI (n := 8) (by decide) (by decide), _, e7_unisons l _ hx, ?_⟩
  rintro r h' ⟨rfl, rfl⟩
  refine ⟨_, e1_timesMember l z T hR hx hc (k := 2) (by decide), ?_⟩
  rintro r h' ⟨rfl, rfl⟩
  have hl := cntm_le T x 2
  have e0 : z.2.1 6 (3 : Int32).toNatClampNeg * nI (iu (tmof T (chd x) (pit x 3))) + z.2.1 6 (8 : Int32).toNatClampNeg * nI (uniU x 3) = nI (T 5 3 * iu (tmof T (chd x) (pit x 3)) + T 5 8 * uniU x 3) := by
    rw [show (3 : Int32) = nI 3 from rfl, show (8 : Int32) = nI 8 from rfl, P 3 (by decide), P 8 (by decide), pk_mul, pk_mul, nI_add]
  refine ⟨fun c => ?_, fun c => ⟨vp_in_nI (n := 2) (by decide) (by decide), ?_⟩⟩
  · have c : ¬ nI (cntm T x 2) = 0 := c
    rw [nk_eq (k := 0) (b := 0) rfl (by omega) (by decide)] at c
    have := k35 (T 5 3 * iu (tmof T (chd x) (pit x 3)) + T 5 8 * uniU x 3) (by unfold cst; rw [if_neg c]; rfl)
    rw [← e0] at this
    exact this
  · have c : nI (cntm T x 2) = 0 := Decidable.not_not.mp c
    rw [nk_eq (k := 0) (b := 0) rfl (by omega) (by decide)] at c
    have := k35 (T 5 3 * iu (tmof T (chd x) (pit x 3)) + T 5 8 * uniU x 3 + T 5 2) (by unfold cst; rw [if_pos c])
    rw [← nI_add, ← e0, ← P 2 (by decide)] at this
    exact this
