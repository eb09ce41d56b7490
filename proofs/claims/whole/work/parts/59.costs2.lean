def hidA (a a' b b' : Nat) : Bool := (decide (a + 2 < a') && decide (b < b')) || (decide (a' + 2 < a) && decide (b' < b))
theorem sub_lt {a b : Nat} {k : Int32} (ha : a < 2 ^ 30) (hb : b < 2 ^ 30) : (nI a - nI b < k) = ((a : Int) - b < k.toInt) := by rw [Int32.lt_iff_toInt_lt, pk_sub_toInt ha hb]
theorem lt_sub {a b : Nat} {k : Int32} (ha : a < 2 ^ 30) (hb : b < 2 ^ 30) : (k < nI a - nI b) = (k.toInt < (a : Int) - b) := by rw [Int32.lt_iff_toInt_lt, pk_sub_toInt ha hb]
theorem sub_le {a b : Nat} {k : Int32} (ha : a < 2 ^ 30) (hb : b < 2 ^ 30) : (nI a - nI b ≤ k) = ((a : Int) - b ≤ k.toInt) := by rw [Int32.le_iff_toInt_le, pk_sub_toInt ha hb]
theorem le_sub {a b : Nat} {k : Int32} (ha : a < 2 ^ 30) (hb : b < 2 ^ 30) : (k ≤ nI a - nI b) = (k.toInt ≤ (a : Int) - b) := by rw [Int32.le_iff_toInt_le, pk_sub_toInt ha hb]
theorem ti_0 : (0 : Int32).toInt = 0 := rfl
theorem ti_2 : (2 : Int32).toInt = 2 := rfl
theorem ti_m2 : (-2 : Int32).toInt = -2 := rfl
theorem ti_7 : (7 : Int32).toInt = 7 := rfl
theorem e7_isHidden (l : Launch) (h : List ri_C) {a a' b b' r : Nat} (ha : a < 2 ^ 30) (ha' : a' < 2 ^ 30) (hb : b < 2 ^ 30) (hb' : b' < 2 ^ 30) (hr : r < 12) : ri_Ev l y7_isHidden w7_isHidden r7_isHidden 0 0 [.int (nI a' - nI a), .int (nI b' - nI b), .int (nI r)] h (ri_is (zb (hidA a a' b b' && (r == 0 || r == 7))) h) := by
  refine ri_ev (t7_isHidden l _) rfl rfl rfl (Nat.le_of_ble_eq_true rfl) rfl (z7_isHidden l _) (fun J hJ => ?_)
  have k23 : (hidA a a' b b' && (r == 0 || r == 7)) = false → ∀ o, J 23 0 0 [some (.int (nI a' - nI a)), some (.int (nI b' - nI b)), some (.int (nI r)), o] [] h := by
    intro e o
    refine ri_go hJ [] 60 23 rfl ?_
    exact ⟨rfl, by rw [e]; rfl, rfl⟩
  have k21 : (hidA a a' b b' && (r == 0 || r == 7)) = true → ∀ o, J 21 0 0 [some (.int (nI a' - nI a)), some (.int (nI b' - nI b)), some (.int (nI r)), o] [] h := by
    intro e o
    refine ri_go hJ [] 60 21 rfl ?_
    exact ⟨rfl, by rw [e]; rfl, rfl⟩
  have k13 : J 13 0 0 [some (.int (nI a' - nI a)), some (.int (nI b' - nI b)), some (.int (nI r)), none] [.int (zb (hidA a a' b b'))] h := by
    refine ri_go hJ [21, 23] 60 13 rfl ?_
    refine ⟨fun c => k23 ?_ _, fun c => ⟨fun d => k21 ?_ _, fun d => ⟨fun g => k23 ?_ _, fun g => k21 ?_ _⟩⟩⟩
    · rw [zb_0.mp c]; rfl
    · have d : nI r = 0 := d
      rw [nk_eq (k := 0) (b := 0) rfl (by omega) (by decide)] at d
      rw [zb_1.mp c, d]; rfl
    · have d : ¬ nI r = 0 := d
      have g : ¬ nI r = 7 := g
      rw [nk_eq (k := 0) (b := 0) rfl (by omega) (by decide)] at d
      rw [nk_eq (k := 7) (b := 7) rfl (by omega) (by decide)] at g
      rw [ne_b d, ne_b g]; simp
    · have g : nI r = 7 := Decidable.not_not.mp g
      rw [nk_eq (k := 7) (b := 7) rfl (by omega) (by decide)] at g
      rw [zb_1.mp c, g]; rfl
  have k10 : hidA a a' b b' = true → J 10 0 0 [some (.int (nI a' - nI a)), some (.int (nI b' - nI b)), some (.int (nI r)), none] [] h := by
    intro e
    rw [e] at k13
    refine ri_go hJ [13] 60 10 rfl ?_
    exact k13
  have k12 : hidA a a' b b' = false → J 12 0 0 [some (.int (nI a' - nI a)), some (.int (nI b' - nI b)), some (.int (nI r)), none] [] h := by
    intro e
    rw [e] at k13
    refine ri_go hJ [13] 60 12 rfl ?_
    exact k13
  have k5 : (decide (a + 2 < a') && decide (b < b')) = false → J 5 0 0 [some (.int (nI a' - nI a)), some (.int (nI b' - nI b)), some (.int (nI r)), none] [] h := by
    intro e
    refine ri_go hJ [10, 12] 60 5 rfl ?_
    refine ⟨fun c => k12 ?_, fun c => ⟨fun d => k12 ?_, fun d => k10 ?_⟩⟩
    · have c : (-2 : Int32) ≤ nI a' - nI a := c
      rw [le_sub ha' ha, ti_m2] at c
      unfold hidA
      rw [e, decide_eq_false (show ¬ a' + 2 < a by omega)]; rfl
    · have d : (0 : Int32) ≤ nI b' - nI b := d
      rw [le_sub hb' hb, ti_0] at d
      unfold hidA
      rw [e, decide_eq_false (show ¬ b' < b by omega)]; simp
    · have c : ¬ (-2 : Int32) ≤ nI a' - nI a := c
      have d : ¬ (0 : Int32) ≤ nI b' - nI b := d
      rw [le_sub ha' ha, ti_m2] at c
      rw [le_sub hb' hb, ti_0] at d
      unfold hidA
      rw [decide_eq_true (show a' + 2 < a by omega), decide_eq_true (show b' < b by omega)]; simp
  refine ri_run_ok hJ [5, 10] 60 0 0 0 _ _ _ ?_
  refine ⟨fun c => k5 ?_, fun c => ⟨fun d => k10 ?_, fun d => k5 ?_⟩⟩
  · have c : nI a' - nI a ≤ 2 := c
    rw [sub_le ha' ha, ti_2] at c
    rw [decide_eq_false (show ¬ a + 2 < a' by omega)]; rfl
  · have c : ¬ nI a' - nI a ≤ 2 := c
    have d : 0 < nI b' - nI b := d
    rw [sub_le ha' ha, ti_2] at c
    rw [lt_sub hb' hb, ti_0] at d
    unfold hidA
    rw [decide_eq_true (show a + 2 < a' by omega), decide_eq_true (show b < b' by omega)]; rfl
  · have d : ¬ 0 < nI b' - nI b := d
    rw [lt_sub hb' hb, ti_0] at d
    rw [decide_eq_false (show ¬ b < b' by omega)]; simp
def lmv (T : tT) (x y : Nat) : Nat → Nat
  | 0 => 0
  | v + 1 => lmv T x y v + T 5 0 * (dst (pit y v) (pit x v) - 2)
def hid (x y : Nat) : Bool := hidA (pit x 0) (pit y 0) (pit x 3) (pit y 3) && ((pit y 0 - pit y 3) % 12 == 0 || (pit y 0 - pit y 3) % 12 == 7)
/-- the costs of a step that isn't barred -/
def csp (T : tT) (x y : Nat) : Nat := T 5 4 * unt (chd x) (chd y) + lmv T x y 3 + (if 7 < dst (pit y 3) (pit x 3) then T 5 1 else 0) + (if hid x y = true then T 5 5 else 0) + (if x / 16 = y / 16 then T 5 7 else 0)
theorem dst_lt (x y v : Nat) : dst (pit y v) (pit x v) < 100 := by
  have := pit_lt x v
  have := pit_lt y v
  unfold dst; split <;> omega
theorem mx2 {d : Nat} (hd : d < 2 ^ 30) : (if (0 : Int32) < nI d - 2 then nI d - 2 else 0) = nI (d - 2) := by
  have e : (2 : Int32) = nI 2 := rfl
  by_cases h : 2 < d
  · rw [if_pos (by rw [e, lt_sub hd (by decide), ti_0]; omega), e, pk_sub (by omega)]
  · rw [if_neg (by rw [e, lt_sub hd (by decide), ti_0]; omega), show d - 2 = 0 by omega]; rfl
theorem e7_ofStep (l : Launch) (z : st_T) (T : tT) {x y : Nat} (hS : RS z T) (hR : RH z T) (hx : CK x) (hy : CK y) (hu : ¬ unt (chd x) (chd y) = 9) : ri_Ev l y7_ofStep w7_ofStep r7_ofStep 0 0 [.ref 92, .int (nI x), .int (nI y)] (st_h z) (ri_is (nI (csp T x y)) (st_h z)) := by
  refine ri_ev (t7_ofStep l _) rfl rfl rfl (Nat.le_of_ble_eq_true rfl) rfl (z7_ofStep l _) (fun J hJ => ?_)
  have P : ∀ k, k < 9 → z.2.1 6 (nI k).toNatClampNeg = nI (T 5 k) := fun k hk => by rw [cl31 (by omega)]; exact hS.2.2.1 k hk
  have k99 : ∀ t, t = csp T x y → ∀ o3 o5 o6, J 99 0 0 [some (.ref 92), some (.int (nI x)), some (.int (nI y)), o3, some (.int (nI t)), o5, o6] [] (st_h z) := by
    intro t e o3 o5 o6
    refine ri_go hJ [] 130 99 rfl ?_
    exact ⟨by rw [e], rfl⟩
  have hs : ∀ w, w < 2 ^ 28 → nI w >>> ((4 : Int32) &&& 31) = nI (w / 16) := fun w hw => pk_shrN (by omega) _ 4 (sh_amt2 (k := 4) (by decide))
  have k84 : ∀ t, t + (if x / 16 = y / 16 then T 5 7 else 0) = csp T x y → ∀ o3 o5 o6, J 84 0 0 [some (.ref 92), some (.int (nI x)), some (.int (nI y)), o3, some (.int (nI t)), o5, o6] [] (st_h z) := by
    intro t e o3 o5 o6
    have hxl := hx.1
    have hyl := hy.1
    refine ri_go hJ [99] 130 84 rfl ?_
    refine ⟨fun c => k99 t ?_ _ _ _, fun c => ⟨vp_in_nI (n := 7) (by decide) (by decide), ?_⟩⟩
    · have c : ¬ nI x >>> ((4 : Int32) &&& 31) = nI y >>> ((4 : Int32) &&& 31) := c
      rw [hs x hxl, hs y hyl, nn_eq (by omega) (by omega)] at c
      rw [if_neg c] at e
      exact e
    · have c : nI x >>> ((4 : Int32) &&& 31) = nI y >>> ((4 : Int32) &&& 31) := Decidable.not_not.mp c
      rw [hs x hxl, hs y hyl, nn_eq (by omega) (by omega)] at c
      rw [if_pos c] at e
      have := k99 (t + T 5 7) e o3 o5 o6
      rw [← nI_add, ← P 7 (by decide)] at this
      exact this
  have k58 : ∀ t, t + (if hid x y = true then T 5 5 else 0) + (if x / 16 = y / 16 then T 5 7 else 0) = csp T x y → ∀ o3 o6, J 58 0 0 [some (.ref 92), some (.int (nI x)), some (.int (nI y)), o3, some (.int (nI t)), some (.int (nI (pit y 3) - nI (pit x 3))), o6] [] (st_h z) := by
    intro t e o3 o6
    have hap : (nI (pit y 0) - nI (pit y 3)) - (nI (pit y 0) - nI (pit y 3)) / 12 * 12 = nI ((pit y 0 - pit y 3) % 12) := apart12 (pl30 _ _) (hy.2.2 0 3 (by decide) (by decide))
    refine ri_go hJ [84] 130 58 rfl ?_
    refine ⟨_, e11_pitchN l hy.1 (v := 0) (by decide) _, ?_⟩
    rintro r h' ⟨rfl, rfl⟩
    refine ⟨_, e11_pitchN l hy.1 (v := 3) (by decide) _, ?_⟩
    rintro r h' ⟨rfl, rfl⟩
    refine ⟨_, e7_move l _ hx.1 hy.1 (v := 0) (by decide), ?_⟩
    rintro r h' ⟨rfl, rfl⟩
    have eh := e7_isHidden l (st_h z) (a := pit x 0) (a' := pit y 0) (b := pit x 3) (b' := pit y 3) (r := (pit y 0 - pit y 3) % 12) (pl30 _ _) (pl30 _ _) (pl30 _ _) (pl30 _ _) (Nat.mod_lt _ (by decide))
    rw [← hap] at eh
    refine ⟨by decide, _, eh, ?_⟩
    rintro r h' ⟨rfl, rfl⟩
    refine ⟨fun c => k84 t ?_ _ _ _, fun c => ⟨vp_in_nI (n := 5) (by decide) (by decide), ?_⟩⟩
    · have c : zb (hid x y) = 0 := c
      rw [zb_0.mp c, if_neg (by decide)] at e
      exact e
    · have c : ¬ zb (hid x y) = 0 := c
      rw [if_pos (zb_1.mp c)] at e
      have := k84 (t + T 5 5) e o3 (some (.int (nI (pit y 3) - nI (pit x 3)))) (some (.int (nI (pit y 0) - nI (pit y 3))))
      rw [← nI_add, ← P 5 (by decide)] at this
      exact this
  have k41 : ∀ t, t + (if 7 < dst (pit y 3) (pit x 3) then T 5 1 else 0) + (if hid x y = true then T 5 5 else 0) + (if x / 16 = y / 16 then T 5 7 else 0) = csp T x y → ∀ o3 o5 o6, J 41 0 0 [some (.ref 92), some (.int (nI x)), some (.int (nI y)), o3, some (.int (nI t)), o5, o6] [] (st_h z) := by
    intro t e o3 o5 o6
    have hdl := dst_lt x y 3
    have hab := dst_abs (pl30 y 3) (pl30 x 3)
    refine ri_go hJ [58] 130 41 rfl ?_
    refine ⟨_, e7_move l _ hx.1 hy.1 (v := 3) (by decide), ?_⟩
    rintro r h' ⟨rfl, rfl⟩
    refine ⟨fun c => k58 t ?_ _ _, fun c => ⟨vp_in_nI (n := 1) (by decide) (by decide), ?_⟩⟩
    · have c : (if (0 : Int32) ≤ nI (pit y 3) - nI (pit x 3) then nI (pit y 3) - nI (pit x 3) else 0 - (nI (pit y 3) - nI (pit x 3))) ≤ 7 := c
      rw [hab, show (7 : Int32) = nI 7 from rfl, nn_le (by omega) (by decide)] at c
      rw [if_neg (by omega)] at e
      exact e
    · have c : ¬ (if (0 : Int32) ≤ nI (pit y 3) - nI (pit x 3) then nI (pit y 3) - nI (pit x 3) else 0 - (nI (pit y 3) - nI (pit x 3))) ≤ 7 := c
      rw [hab, show (7 : Int32) = nI 7 from rfl, nn_le (by omega) (by decide)] at c
      rw [if_pos (by omega)] at e
      have := k58 (t + T 5 1) e o3 o6
      rw [← nI_add, ← P 1 (by decide)] at this
      exact this
  have loop : ∀ n v, n + v = 3 → ∀ o3 o6, J 18 0 0 [some (.ref 92), some (.int (nI x)), some (.int (nI y)), o3, some (.int (nI (T 5 4 * unt (chd x) (chd y) + lmv T x y v))), some (.int (nI v)), o6] [] (st_h z) := by
    intro n
    induction n with
    | zero =>
      intro v hv o3 o6
      have hv3 : v = 3 := by omega
      subst hv3
      refine ri_go hJ [41] 130 18 rfl ?_
      exact ⟨fun _ => k41 _ rfl _ _ _, fun c => absurd (by decide) c⟩
    | succ n ih =>
      intro v hv o3 o6
      have e1 := nI_1 v
      have hdl := dst_lt x y v
      have hab := dst_abs (pl30 y v) (pl30 x v)
      refine ri_go hJ [18] 130 18 rfl ?_
      refine ⟨fun c => absurd c (nI_ge (a := v) (b := 3) (by omega) (by decide)), fun _ => ⟨vp_in_nI (n := 0) (by decide) (by decide), _, e7_move l _ hx.1 hy.1 (v := v) (by omega), ?_⟩⟩
      rintro r h' ⟨rfl, rfl⟩
      have := ih (v + 1) (by omega) o3 o6
      rw [← e1, show T 5 4 * unt (chd x) (chd y) + lmv T x y (v + 1) = (T 5 4 * unt (chd x) (chd y) + lmv T x y v) + T 5 0 * (dst (pit y v) (pit x v) - 2) by show _ + (_ + _) = _; omega, ← nI_add, ← pk_mul, ← mx2 (by omega), ← hab, ← P 0 (by decide)] at this
      exact this
  refine ri_run_ok hJ [18] 130 0 0 0 _ _ _ ?_
  refine ⟨_, e11_chordN l hx.1 _, ?_⟩
  rintro r h' ⟨rfl, rfl⟩
  refine ⟨_, e11_chordN l hy.1 _, ?_⟩
  rintro r h' ⟨rfl, rfl⟩
  refine ⟨_, e1_unitsBetween l z T hR hx.2.1 hy.2.1, ?_⟩
  rintro r h' ⟨rfl, rfl⟩
  refine ⟨vp_in_nI (n := 4) (by decide) (by decide), ?_⟩
  have hn : nU (unt (chd x) (chd y)) = nI (unt (chd x) (chd y)) := by unfold nU; rw [if_neg hu]
  have := loop 3 0 rfl (some (.int (nU (unt (chd x) (chd y))))) none
  rw [show T 5 4 * unt (chd x) (chd y) + lmv T x y 0 = T 5 4 * unt (chd x) (chd y) from rfl, ← pk_mul, ← hn, ← P 4 (by decide)] at this
  exact this
