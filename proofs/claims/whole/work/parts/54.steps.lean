/-! StepRules: a step looked at -/
theorem nI_m1 {n : Nat} (h : n < 2 ^ 31) : ¬ nI n = -1 := fun q => nI_pos h (by rw [q]; decide)
theorem nI_m2 {n : Nat} (h : n < 2 ^ 31) : ¬ nI n = -2 := fun q => nI_pos h (by rw [q]; decide)
theorem unt_le (a b : Nat) : unt a b ≤ 9 := by
  unfold unt
  repeat' split
  all_goals omega
theorem nU_m1 {n : Nat} (q : nU n = -1) (h : n ≤ 9) : n = 9 := by
  unfold nU at q
  by_cases hn : n = 9
  · exact hn
  · rw [if_neg hn] at q; exact absurd q (nI_m1 (by omega))
theorem n9_none {n : Nat} (h : n = 99 ∨ n < 12) : n9 n = -2 ↔ n = 99 := by
  unfold n9
  by_cases hn : n = 99
  · rw [if_pos hn]; exact ⟨fun _ => hn, fun _ => rfl⟩
  · rw [if_neg hn]; exact ⟨fun q => absurd q (nI_m2 (by omega)), fun q => absurd q hn⟩
/-- some place from v on, n of them -/
def anf (P : Nat → Bool) : Nat → Nat → Bool
  | 0, _ => false
  | n + 1, v => P v || anf P n (v + 1)
theorem anf_t {P : Nat → Bool} {n v : Nat} (h : P v = true) : anf P (n + 1) v = true := by unfold anf; rw [h]; rfl
theorem anf_f {P : Nat → Bool} {n v : Nat} (h : P v = false) : anf P (n + 1) v = anf P n (v + 1) := by show (P v || _) = _; rw [h]; rfl
def dst (a b : Nat) : Nat := if b ≤ a then a - b else b - a
theorem dst_abs {a b : Nat} (ha : a < 2 ^ 30) (hb : b < 2 ^ 30) : (if (0 : Int32) ≤ nI a - nI b then nI a - nI b else 0 - (nI a - nI b)) = nI (dst a b) := by
  have e := pk_sub_toInt ha hb
  unfold dst
  by_cases h : b ≤ a
  · rw [if_pos h, if_pos (by rw [Int32.le_iff_toInt_le, e]; show (0 : Int) ≤ _; omega), pk_sub h]
  · rw [if_neg h, if_neg (by rw [Int32.le_iff_toInt_le, e]; show ¬ (0 : Int) ≤ _; omega)]
    have e2 : (0 : Int32) - (nI a - nI b) = nI b - nI a := by
      apply Int32.toBitVec_inj.mp
      simp
    rw [e2, pk_sub (by omega)]
def lkz (z : st_T) (x y : Nat) : st_T := fa (fa (fs (fs z 18 1 (nI (chd x))) 18 2 (nI (chd y))) 19 (up4 (z.2.1 19) x)) 20 (up4 (z.2.1 20) y)
theorem e3_lookAt (l : Launch) (z : st_T) {x y : Nat} (hx : x < 2 ^ 28) (hy : y < 2 ^ 28) : ri_Ev l y3_lookAt w3_lookAt r3_lookAt 0 0 [.ref 34, .int (nI x), .int (nI y)] (st_h z) (ri_vo (st_h (lkz z x y))) := by
  refine ri_ev (t3_lookAt l _) rfl rfl rfl (Nat.le_of_ble_eq_true rfl) rfl (z3_lookAt l _) (fun J hJ => ?_)
  refine ri_run_ok hJ [] 40 0 0 0 _ _ _ ?_
  refine ⟨_, e11_chordN l hx _, ?_⟩
  rintro r h' ⟨rfl, rfl⟩
  refine ⟨_, e11_chordN l hy _, ?_⟩
  rintro r h' ⟨rfl, rfl⟩
  refine ⟨_, e11_unpack l hx _ (q := 35) rfl rfl, ?_⟩
  rintro r h' ⟨rfl, rfl⟩
  refine ⟨_, e11_unpack l hy _ (q := 36) rfl rfl, ?_⟩
  rintro r h' ⟨rfl, rfl⟩
  exact ⟨rfl, rfl⟩
/-- what is looked at -/
def LK (z : st_T) (x y : Nat) : Prop := z.1 18 1 = nI (chd x) ∧ z.1 18 2 = nI (chd y) ∧ (∀ v, v < 4 → z.2.1 19 v = nI (pit x v)) ∧ (∀ v, v < 4 → z.2.1 20 v = nI (pit y v))
theorem LK_lkz (z : st_T) (x y : Nat) : LK (lkz z x y) x y := ⟨rfl, rfl, fun v hv => up4_at _ x hv, fun v hv => up4_at _ y hv⟩
theorem md_lkz (z : st_T) (x y : Nat) : md [18, 19, 20] z (lkz z x y) := md_tr (md_tr (md_tr (md_fs (by decide)) (md_fs (by decide))) (md_fa (by decide))) (md_fa (by decide))
theorem e3_breaks7 (l : Launch) (z : st_T) (T : tT) {x y : Nat} (hR : RH z T) (hL : LK z x y) (hx : chd x < 13) (hy : chd y < 13) : ri_Ev l y3_breaks7 w3_breaks7 r3_breaks7 0 0 [.ref 34] (st_h z) (ri_is (zb (unt (chd x) (chd y) == 9)) (st_h z)) := by
  refine ri_ev (t3_breaks7 l _) rfl rfl rfl (Nat.le_of_ble_eq_true rfl) rfl (z3_breaks7 l _) (fun J hJ => ?_)
  refine ri_run_ok hJ [] 40 0 0 0 _ _ _ ?_
  have e := e1_unitsBetween l z T hR hx hy
  rw [← hL.1, ← hL.2.1] at e
  refine ⟨_, e, ?_⟩
  rintro r h' ⟨rfl, rfl⟩
  by_cases hb : unt (chd x) (chd y) = 9
  · refine ⟨fun c => absurd (show nU (unt (chd x) (chd y)) = -1 by rw [hb]; rfl) c, fun c => ⟨rfl, ?_, rfl⟩⟩
    rw [hb]; rfl
  · refine ⟨fun c => ⟨rfl, ?_, rfl⟩, fun c => absurd (show ¬ nU (unt (chd x) (chd y)) = -1 from ?_) c⟩
    · rw [show (unt (chd x) (chd y) == 9) = false by simpa using hb]; rfl
    · intro q; exact hb (nU_m1 q (unt_le _ _))
def b10 (x y v : Nat) : Bool := decide (pit x v < pit y (v + 1)) || decide (pit y v < pit x (v + 1))
theorem LK_a {z : st_T} {x y : Nat} (hL : LK z x y) {v : Nat} (hv : v < 4) : z.2.1 19 (nI v).toNatClampNeg = nI (pit x v) := by rw [cl31 (by omega)]; exact hL.2.2.1 v hv
theorem LK_b {z : st_T} {x y : Nat} (hL : LK z x y) {v : Nat} (hv : v < 4) : z.2.1 20 (nI v).toNatClampNeg = nI (pit y v) := by rw [cl31 (by omega)]; exact hL.2.2.2 v hv
theorem pl31 (x v : Nat) : pit x v < 2 ^ 31 := Nat.lt_trans (pit_lt x v).1 (by decide)
theorem pl30 (x v : Nat) : pit x v < 2 ^ 30 := Nat.lt_trans (pit_lt x v).1 (by decide)
theorem e3_breaks10 (l : Launch) (z : st_T) {x y : Nat} (hL : LK z x y) : ri_Ev l y3_breaks10 w3_breaks10 r3_breaks10 0 0 [.ref 34] (st_h z) (ri_is (zb (anf (b10 x y) 3 0)) (st_h z)) := by
  refine ri_ev (t3_breaks10 l _) rfl rfl rfl (Nat.le_of_ble_eq_true rfl) rfl (z3_breaks10 l _) (fun J hJ => ?_)
  have loop : ∀ n v, n + v = 3 → anf (b10 x y) 3 0 = anf (b10 x y) n v → J 2 0 0 [some (.ref 34), some (.int (nI v))] [] (st_h z) := by
    intro n
    induction n with
    | zero =>
      intro v hv e
      have hv3 : v = 3 := by omega
      subst hv3
      refine ri_go hJ [2] 40 2 rfl ?_
      exact ⟨fun _ => ⟨rfl, by rw [e]; rfl, rfl⟩, fun c => absurd (by decide) c⟩
    | succ n ih =>
      intro v hv e
      have e1 := nI_1 v
      have a0 := LK_a hL (v := v) (by omega)
      have a1 := LK_a hL (v := v + 1) (by omega)
      have c0 := LK_b hL (v := v) (by omega)
      have c1 := LK_b hL (v := v + 1) (by omega)
      rw [← e1] at a1 c1
      have hi1 : vp_in (nI v + 1) 4 := by rw [e1]; exact vp_in_nI (by omega) (by decide)
      have hi0 : vp_in (nI v) 4 := vp_in_nI (by omega) (by decide)
      refine ri_go hJ [2] 40 2 rfl ?_
      refine ⟨fun c => absurd c (nI_ge (a := v) (b := 3) (by omega) (by decide)), fun _ => ⟨hi1, hi0, fun c => ⟨rfl, ?_, rfl⟩, fun c => ⟨hi0, hi1, fun d => ?_, fun d => ⟨rfl, ?_, rfl⟩⟩⟩⟩
      · have c : z.2.1 19 (nI v).toNatClampNeg < z.2.1 20 (nI v + 1).toNatClampNeg := c
        rw [a0, c1, nn_lt (pl31 _ _) (pl31 _ _)] at c
        rw [e, anf_t (by unfold b10; rw [decide_eq_true c]; rfl)]
        rfl
      · have c : ¬ z.2.1 19 (nI v).toNatClampNeg < z.2.1 20 (nI v + 1).toNatClampNeg := c
        have d : z.2.1 19 (nI v + 1).toNatClampNeg ≤ z.2.1 20 (nI v).toNatClampNeg := d
        rw [a0, c1, nn_lt (pl31 _ _) (pl31 _ _)] at c
        rw [a1, c0, nn_le (pl31 _ _) (pl31 _ _)] at d
        have := ih (v + 1) (by omega) (by rw [e, anf_f (by unfold b10; rw [decide_eq_false c, decide_eq_false (by omega)]; rfl)])
        rw [← e1] at this
        exact this
      · have d : ¬ z.2.1 19 (nI v + 1).toNatClampNeg ≤ z.2.1 20 (nI v).toNatClampNeg := d
        rw [a1, c0, nn_le (pl31 _ _) (pl31 _ _)] at d
        rw [e, anf_t (by unfold b10; rw [Bool.or_eq_true]; exact Or.inr (decide_eq_true (by omega)))]
        rfl
  exact ri_run_ok hJ [2] 40 0 0 0 _ _ _ (loop 3 0 rfl rfl)
def b9 (x y v : Nat) : Bool := decide (12 < dst (pit y v) (pit x v)) || (dst (pit y v) (pit x v) == 6 || dst (pit y v) (pit x v) == 10 || dst (pit y v) (pit x v) == 11)
theorem good_mv : ∀ d, d ≤ 12 → (((5055 : Int32) >>> (nI d &&& 31)) &&& 1 = 0 ↔ (d == 6 || d == 10 || d == 11) = true) := by decide +kernel
theorem e3_breaks9 (l : Launch) (z : st_T) {x y : Nat} (hL : LK z x y) : ri_Ev l y3_breaks9 w3_breaks9 r3_breaks9 0 0 [.ref 34] (st_h z) (ri_is (zb (anf (b9 x y) 4 0)) (st_h z)) := by
  refine ri_ev (t3_breaks9 l _) rfl rfl rfl (Nat.le_of_ble_eq_true rfl) rfl (z3_breaks9 l _) (fun J hJ => ?_)
  have loop : ∀ n v, n + v = 4 → anf (b9 x y) 4 0 = anf (b9 x y) n v → ∀ o, J 2 0 0 [some (.ref 34), some (.int (nI v)), o] [] (st_h z) := by
    intro n
    induction n with
    | zero =>
      intro v hv e o
      have hv3 : v = 4 := by omega
      subst hv3
      refine ri_go hJ [2] 40 2 rfl ?_
      exact ⟨fun _ => ⟨rfl, by rw [e]; rfl, rfl⟩, fun c => absurd (by decide) c⟩
    | succ n ih =>
      intro v hv e o
      have e1 := nI_1 v
      have hi0 : vp_in (nI v) 4 := vp_in_nI (by omega) (by decide)
      have hd : (if (0 : Int32) ≤ z.2.1 20 (nI v).toNatClampNeg - z.2.1 19 (nI v).toNatClampNeg then z.2.1 20 (nI v).toNatClampNeg - z.2.1 19 (nI v).toNatClampNeg else 0 - (z.2.1 20 (nI v).toNatClampNeg - z.2.1 19 (nI v).toNatClampNeg)) = nI (dst (pit y v) (pit x v)) := by
        rw [LK_a hL (by omega), LK_b hL (by omega)]
        exact dst_abs (pl30 _ _) (pl30 _ _)
      have hdl : dst (pit y v) (pit x v) < 100 := by
        have := pit_lt x v
        have := pit_lt y v
        unfold dst; split <;> omega
      refine ri_go hJ [2] 40 2 rfl ?_
      refine ⟨fun c => absurd c (nI_ge (a := v) (b := 4) (by omega) (by decide)), fun _ => ⟨hi0, hi0, fun c => ⟨rfl, ?_, rfl⟩, fun c => ⟨fun d => ?_, fun d => ⟨rfl, ?_, rfl⟩⟩⟩⟩
      · have c : (12 : Int32) < (if (0 : Int32) ≤ z.2.1 20 (nI v).toNatClampNeg - z.2.1 19 (nI v).toNatClampNeg then z.2.1 20 (nI v).toNatClampNeg - z.2.1 19 (nI v).toNatClampNeg else 0 - (z.2.1 20 (nI v).toNatClampNeg - z.2.1 19 (nI v).toNatClampNeg)) := c
        rw [hd, show (12 : Int32) = nI 12 from rfl, nn_lt (by decide) (by omega)] at c
        rw [e, anf_t (by unfold b9; rw [decide_eq_true c]; rfl)]
        rfl
      · have c : ¬ (12 : Int32) < (if (0 : Int32) ≤ z.2.1 20 (nI v).toNatClampNeg - z.2.1 19 (nI v).toNatClampNeg then z.2.1 20 (nI v).toNatClampNeg - z.2.1 19 (nI v).toNatClampNeg else 0 - (z.2.1 20 (nI v).toNatClampNeg - z.2.1 19 (nI v).toNatClampNeg)) := c
        have d : ¬ ((5055 : Int32) >>> ((if (0 : Int32) ≤ z.2.1 20 (nI v).toNatClampNeg - z.2.1 19 (nI v).toNatClampNeg then z.2.1 20 (nI v).toNatClampNeg - z.2.1 19 (nI v).toNatClampNeg else 0 - (z.2.1 20 (nI v).toNatClampNeg - z.2.1 19 (nI v).toNatClampNeg)) &&& 31)) &&& 1 = 0 := d
        rw [hd] at d
        rw [hd, show (12 : Int32) = nI 12 from rfl, nn_lt (by decide) (by omega)] at c
        have d2 := (not_congr (good_mv _ (by omega))).mp d
        have := ih (v + 1) (by omega) (by rw [e, anf_f (by unfold b9; rw [decide_eq_false c, Bool.eq_false_iff.mpr d2]; rfl)]) (some (.int (if (0 : Int32) ≤ z.2.1 20 (nI v).toNatClampNeg - z.2.1 19 (nI v).toNatClampNeg then z.2.1 20 (nI v).toNatClampNeg - z.2.1 19 (nI v).toNatClampNeg else 0 - (z.2.1 20 (nI v).toNatClampNeg - z.2.1 19 (nI v).toNatClampNeg))))
        rw [← e1] at this
        exact this
      · have c : ¬ (12 : Int32) < (if (0 : Int32) ≤ z.2.1 20 (nI v).toNatClampNeg - z.2.1 19 (nI v).toNatClampNeg then z.2.1 20 (nI v).toNatClampNeg - z.2.1 19 (nI v).toNatClampNeg else 0 - (z.2.1 20 (nI v).toNatClampNeg - z.2.1 19 (nI v).toNatClampNeg)) := c
        have d : ((5055 : Int32) >>> ((if (0 : Int32) ≤ z.2.1 20 (nI v).toNatClampNeg - z.2.1 19 (nI v).toNatClampNeg then z.2.1 20 (nI v).toNatClampNeg - z.2.1 19 (nI v).toNatClampNeg else 0 - (z.2.1 20 (nI v).toNatClampNeg - z.2.1 19 (nI v).toNatClampNeg)) &&& 31)) &&& 1 = 0 := Decidable.not_not.mp d
        rw [hd] at d
        rw [hd, show (12 : Int32) = nI 12 from rfl, nn_lt (by decide) (by omega)] at c
        rw [e, anf_t (by unfold b9; rw [(good_mv _ (by omega)).mp d, Bool.or_true])]
        rfl
  exact ri_run_ok hJ [2] 40 0 0 0 _ _ _ (loop 4 0 rfl rfl _)
