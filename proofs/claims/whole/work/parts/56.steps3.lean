/-! StepRules: rules 11 and 12; allow and barring -/
def b11 (T : tT) (x y : Nat) : Bool := (chd x == 4 || (chd x == 6 || chd x == 7)) && ((chd y == 0 || chd y == 5) && (b11v T x y 0 || b11v T x y 3))
theorem chd_lt (x : Nat) : chd x < 16 := Nat.mod_lt _ (by decide)
theorem ne_b {a b : Nat} (h : ¬ a = b) : (a == b) = false := by simpa using h
theorem eq_b {a b : Nat} (h : a = b) : (a == b) = true := by simpa using h
theorem nk_eq {a b : Nat} {k : Int32} (hk : k = nI b) (ha : a < 2 ^ 31) (hb : b < 2 ^ 31) : (nI a = k) = (a = b) := by rw [hk]; exact nn_eq ha hb
theorem e3_breaks11 (l : Launch) (z : st_T) (T : tT) {x y : Nat} (hR : RH z T) (hL : LK z x y) : ri_Ev l y3_breaks11 w3_breaks11 r3_breaks11 0 0 [.ref 34] (st_h z) (ri_is (zb (b11 T x y)) (st_h z)) := by
  refine ri_ev (t3_breaks11 l _) rfl rfl rfl (Nat.le_of_ble_eq_true rfl) rfl (z3_breaks11 l _) (fun J hJ => ?_)
  have cx := chd_lt x
  have cy := chd_lt y
  have h19 : b11 T x y = false → J 19 0 0 [some (.ref 34)] [] (st_h z) := by
    intro hb
    refine ri_go hJ [] 90 19 rfl ?_
    exact ⟨rfl, by rw [hb]; rfl, rfl⟩
  have h21 : (chd x == 4 || (chd x == 6 || chd x == 7)) = true → (chd y == 0 || chd y == 5) = true → J 21 0 0 [some (.ref 34)] [] (st_h z) := by
    intro g1 g2
    refine ri_go hJ [] 90 21 rfl ?_
    refine ⟨_, e3_leadsAstray l z T hR hL (v := 0) (by decide), ?_⟩
    rintro r h' ⟨rfl, rfl⟩
    refine ⟨fun c => ⟨rfl, ?_, rfl⟩, fun c => ⟨_, e3_leadsAstray l z T hR hL (v := 3) (by decide), ?_⟩⟩
    · unfold b11
      rw [g1, g2, zb_1.mp c]; rfl
    · rintro r h' ⟨rfl, rfl⟩
      have c : zb (b11v T x y 0) = 0 := Decidable.not_not.mp c
      rw [zb_0] at c
      refine ⟨fun d => ⟨rfl, ?_, rfl⟩, fun d => ⟨rfl, ?_, rfl⟩⟩
      · have d : zb (b11v T x y 3) = 0 := d
        rw [zb_0] at d
        unfold b11
        rw [g1, g2, c, d]; rfl
      · unfold b11
        rw [g1, g2, c, zb_1.mp d]; rfl
  have h12 : (chd x == 4 || (chd x == 6 || chd x == 7)) = true → J 12 0 0 [some (.ref 34)] [] (st_h z) := by
    intro g1
    refine ri_go hJ [19, 21] 90 12 rfl ?_
    refine ⟨fun c => h21 g1 ?_, fun c => ⟨fun d => h21 g1 ?_, fun d => h19 ?_⟩⟩
    · have c : z.1 18 2 = 0 := c
      rw [hL.2.1, nk_eq (k := 0) (b := 0) rfl (by omega) (by decide)] at c
      rw [c]; rfl
    · have d : z.1 18 2 = 5 := d
      rw [hL.2.1, nk_eq (k := 5) (b := 5) rfl (by omega) (by decide)] at d
      rw [d]; rfl
    · have c : ¬ z.1 18 2 = 0 := c
      have d : ¬ z.1 18 2 = 5 := d
      rw [hL.2.1, nk_eq (k := 0) (b := 0) rfl (by omega) (by decide)] at c
      rw [hL.2.1, nk_eq (k := 5) (b := 5) rfl (by omega) (by decide)] at d
      unfold b11
      rw [ne_b c, ne_b d]; simp
  refine ri_run_ok hJ [12, 19] 90 0 0 0 _ _ _ ?_
  refine ⟨fun c => h12 ?_, fun c => ⟨fun d => h12 ?_, fun d => ⟨fun g => h19 ?_, fun g => h12 ?_⟩⟩⟩
  · have c : z.1 18 1 = 4 := c
    rw [hL.1, nk_eq (k := 4) (b := 4) rfl (by omega) (by decide)] at c
    rw [c]; rfl
  · have d : z.1 18 1 = 6 := d
    rw [hL.1, nk_eq (k := 6) (b := 6) rfl (by omega) (by decide)] at d
    rw [d]; rfl
  · have c : ¬ z.1 18 1 = 4 := c
    have d : ¬ z.1 18 1 = 6 := d
    have g : ¬ z.1 18 1 = 7 := g
    rw [hL.1, nk_eq (k := 4) (b := 4) rfl (by omega) (by decide)] at c
    rw [hL.1, nk_eq (k := 6) (b := 6) rfl (by omega) (by decide)] at d
    rw [hL.1, nk_eq (k := 7) (b := 7) rfl (by omega) (by decide)] at g
    unfold b11
    rw [ne_b c, ne_b d, ne_b g]; rfl
  · have g : z.1 18 1 = 7 := Decidable.not_not.mp g
    rw [hL.1, nk_eq (k := 7) (b := 7) rfl (by omega) (by decide)] at g
    rw [g]; rfl
def b12v (T : tT) (x y v : Nat) : Bool := (pit x v % 12 == tmem T (chd x) 3) && !(decide (pit y v ≤ pit x v) && decide (pit x v - pit y v ≤ 2))
def b12 (T : tT) (x y : Nat) : Bool := !(tmem T (chd x) 3 == 99) && (!(chd x == chd y) && anf (b12v T x y) 4 0)
theorem e3_breaks12 (l : Launch) (z : st_T) (T : tT) {x y : Nat} (hR : RH z T) (hL : LK z x y) (hcx : chd x < 13) : ri_Ev l y3_breaks12 w3_breaks12 r3_breaks12 0 0 [.ref 34] (st_h z) (ri_is (zb (b12 T x y)) (st_h z)) := by
  refine ri_ev (t3_breaks12 l _) rfl rfl rfl (Nat.le_of_ble_eq_true rfl) rfl (z3_breaks12 l _) (fun J hJ => ?_)
  have cx := chd_lt x
  have cy := chd_lt y
  have hm := tmem_lt T (chd x) 3
  have loop : tmem T (chd x) 3 < 12 → ¬ chd x = chd y → ∀ n v, n + v = 4 → b12 T x y = anf (b12v T x y) n v → ∀ o, J 19 0 0 [some (.ref 34), some (.int (nI (tmem T (chd x) 3))), some (.int (nI v)), o] [] (st_h z) := by
    intro h12 hne n
    induction n with
    | zero =>
      intro v hv e o
      have hv4 : v = 4 := by omega
      subst hv4
      refine ri_go hJ [19] 90 19 rfl ?_
      exact ⟨fun _ => ⟨rfl, by rw [e]; rfl, rfl⟩, fun c => absurd (by decide) c⟩
    | succ n ih =>
      intro v hv e o
      have e1 := nI_1 v
      have iv : vp_in (nI v) 4 := vp_in_nI (by omega) (by decide)
      have a0 := LK_a hL (v := v) (by omega)
      have c0 := LK_b hL (v := v) (by omega)
      have hr : z.2.1 19 (nI v).toNatClampNeg - z.2.1 19 (nI v).toNatClampNeg / 12 * 12 = nI (pit x v % 12) := by
        rw [a0]; exact rem12 (pl31 _ _)
      have rx := Nat.mod_lt (pit x v) (show 0 < 12 by decide)
      have hd : (z.2.1 19 (nI v).toNatClampNeg - z.2.1 20 (nI v).toNatClampNeg).toInt = (pit x v : Int) - pit y v := by
        rw [a0, c0]; exact pk_sub_toInt (pl30 _ _) (pl30 _ _)
      have h47 : b12v T x y v = false → J 47 0 0 [some (.ref 34), some (.int (nI (tmem T (chd x) 3))), some (.int (nI v)), some (.int (z.2.1 19 (nI v).toNatClampNeg - z.2.1 20 (nI v).toNatClampNeg))] [] (st_h z) := by
        intro hb
        refine ri_go hJ [19] 90 47 rfl ?_
        have := ih (v + 1) (by omega) (by rw [e, anf_f hb]) (some (.int (z.2.1 19 (nI v).toNatClampNeg - z.2.1 20 (nI v).toNatClampNeg)))
        rw [← e1] at this
        exact this
      refine ri_go hJ [47] 90 19 rfl ?_
      refine ⟨fun c => absurd c (nI_ge (a := v) (b := 4) (by omega) (by decide)), fun _ => ⟨iv, iv, iv, by decide, fun c => h47 ?_, fun c => ⟨fun d => ⟨rfl, ?_, rfl⟩, fun d => ⟨fun g => h47 ?_, fun g => ⟨rfl, ?_, rfl⟩⟩⟩⟩⟩
      · have c : ¬ z.2.1 19 (nI v).toNatClampNeg - z.2.1 19 (nI v).toNatClampNeg / 12 * 12 = nI (tmem T (chd x) 3) := c
        rw [hr, nn_eq (by omega) (by omega)] at c
        unfold b12v
        rw [ne_b c]; rfl
      · have c : z.2.1 19 (nI v).toNatClampNeg - z.2.1 19 (nI v).toNatClampNeg / 12 * 12 = nI (tmem T (chd x) 3) := Decidable.not_not.mp c
        have d : z.2.1 19 (nI v).toNatClampNeg - z.2.1 20 (nI v).toNatClampNeg < 0 := d
        rw [hr, nn_eq (by omega) (by omega)] at c
        rw [Int32.lt_iff_toInt_lt, hd] at d
        have d : (pit x v : Int) - pit y v < 0 := d
        rw [e, anf_t (by unfold b12v; rw [eq_b c, decide_eq_false (by omega)]; rfl)]; rfl
      · have d : ¬ z.2.1 19 (nI v).toNatClampNeg - z.2.1 20 (nI v).toNatClampNeg < 0 := d
        have g : z.2.1 19 (nI v).toNatClampNeg - z.2.1 20 (nI v).toNatClampNeg ≤ 2 := g
        rw [Int32.lt_iff_toInt_lt, hd] at d
        rw [Int32.le_iff_toInt_le, hd] at g
        have d : ¬ (pit x v : Int) - pit y v < 0 := d
        have g : (pit x v : Int) - pit y v ≤ 2 := g
        unfold b12v
        rw [decide_eq_true (show pit y v ≤ pit x v by omega), decide_eq_true (show pit x v - pit y v ≤ 2 by omega)]; simp
      · have c : z.2.1 19 (nI v).toNatClampNeg - z.2.1 19 (nI v).toNatClampNeg / 12 * 12 = nI (tmem T (chd x) 3) := Decidable.not_not.mp c
        have g : ¬ z.2.1 19 (nI v).toNatClampNeg - z.2.1 20 (nI v).toNatClampNeg ≤ 2 := g
        rw [hr, nn_eq (by omega) (by omega)] at c
        rw [Int32.le_iff_toInt_le, hd] at g
        have g : ¬ (pit x v : Int) - pit y v ≤ 2 := g
        rw [e, anf_t (by unfold b12v; rw [eq_b c, decide_eq_false (show ¬ pit x v - pit y v ≤ 2 by omega)]; simp)]; rfl
  have h15 : b12 T x y = false → ∀ o, J 15 0 0 [some (.ref 34), o, none, none] [] (st_h z) := by
    intro hb o
    refine ri_go hJ [] 90 15 rfl ?_
    exact ⟨rfl, by rw [hb]; rfl, rfl⟩
  have ec := e1_memberClass l z T hR hcx (k := 3) (by decide)
  rw [← hL.1] at ec
  refine ri_run_ok hJ [15, 19] 90 0 0 0 _ _ _ ?_
  refine ⟨_, ec, ?_⟩
  rintro r h' ⟨rfl, rfl⟩
  refine ⟨fun c => h15 ?_ _, fun c => ⟨fun d => ?_, fun d => h15 ?_ _⟩⟩
  · have c : n9 (tmem T (chd x) 3) = -2 := c
    rw [n9_none hm] at c
    unfold b12
    rw [eq_b c]; rfl
  · have c : ¬ n9 (tmem T (chd x) 3) = -2 := c
    rw [n9_none hm] at c
    have d : ¬ z.1 18 1 = z.1 18 2 := d
    rw [hL.1, hL.2.1, nn_eq (by omega) (by omega)] at d
    have := loop (by omega) d 4 0 rfl (by unfold b12; rw [ne_b c, ne_b d]; rfl) none
    rw [show nI (tmem T (chd x) 3) = n9 (tmem T (chd x) 3) by unfold n9; rw [if_neg c]] at this
    exact this
  · have d : z.1 18 1 = z.1 18 2 := Decidable.not_not.mp d
    rw [hL.1, hL.2.1, nn_eq (by omega) (by omega)] at d
    unfold b12
    rw [eq_b d]; simp
/-- which of the rules 7 to 12 bar the step -/
def b7 (x y : Nat) : Bool := unt (chd x) (chd y) == 9
def alw (T : tT) (x y : Nat) : Bool := !(b7 x y) && (!(anf (b10 x y) 3 0) && (!(anf (b9 x y) 4 0) && (!(anf (b8 x y) 3 0) && (!(b11 T x y) && !(b12 T x y)))))
def bit (b : Bool) (k : Int32) : Int32 := bif b then k else 0
def brs (T : tT) (x y : Nat) : Int32 := ((((bit (b7 x y) 128 ||| bit (anf (b8 x y) 3 0) 256) ||| bit (anf (b9 x y) 4 0) 512) ||| bit (anf (b10 x y) 3 0) 1024) ||| bit (b11 T x y) 2048) ||| bit (b12 T x y) 4096
/-- a code that may stand somewhere: its chord is one, its voices go down -/
def CK (x : Nat) : Prop := x < 2 ^ 28 ∧ chd x < 13 ∧ DS x
theorem e3_allow (l : Launch) (z : st_T) (T : tT) {x y : Nat} (hR : RH z T) (hx : CK x) (hy : CK y) : ri_Ev l y3_allow w3_allow r3_allow 0 0 [.ref 34, .int (nI x), .int (nI y)] (st_h z) (ri_is (zb (alw T x y)) (st_h (lkz z x y))) := by
  refine ri_ev (t3_allow l _) rfl rfl rfl (Nat.le_of_ble_eq_true rfl) rfl (z3_allow l _) (fun J hJ => ?_)
  have hL := LK_lkz z x y
  have hR' := RH_md hR (md_lkz z x y) (by decide)
  have h24 : alw T x y = false → J 24 0 0 [some (.ref 34), some (.int (nI x)), some (.int (nI y))] [] (st_h (lkz z x y)) := by
    intro hb
    refine ri_go hJ [] 90 24 rfl ?_
    exact ⟨rfl, by rw [hb]; rfl, rfl⟩
  refine ri_run_ok hJ [24] 90 0 0 0 _ _ _ ?_
  refine ⟨_, e3_lookAt l z hx.1 hy.1, ?_⟩
  rintro r h' ⟨rfl, rfl⟩
  refine ⟨_, e3_breaks7 l _ T hR' hL hx.2.1 hy.2.1, ?_⟩
  rintro r h' ⟨rfl, rfl⟩
  refine ⟨fun c => h24 ?_, fun c7 => ⟨_, e3_breaks10 l _ hL, ?_⟩⟩
  · unfold alw b7; rw [zb_1.mp c]; rfl
  have c7 := zb_0.mp (Decidable.not_not.mp c7)
  rintro r h' ⟨rfl, rfl⟩
  refine ⟨fun c => h24 ?_, fun c10 => ⟨_, e3_breaks9 l _ hL, ?_⟩⟩
  · unfold alw; rw [zb_1.mp c]; simp
  have c10 := zb_0.mp (Decidable.not_not.mp c10)
  rintro r h' ⟨rfl, rfl⟩
  refine ⟨fun c => h24 ?_, fun c9 => ⟨_, e3_breaks8 l _ hL hx.2.2 hy.2.2, ?_⟩⟩
  · unfold alw; rw [zb_1.mp c]; simp
  have c9 := zb_0.mp (Decidable.not_not.mp c9)
  rintro r h' ⟨rfl, rfl⟩
  refine ⟨fun c => h24 ?_, fun c8 => ⟨_, e3_breaks11 l _ T hR' hL, ?_⟩⟩
  · unfold alw; rw [zb_1.mp c]; simp
  have c8 := zb_0.mp (Decidable.not_not.mp c8)
  rintro r h' ⟨rfl, rfl⟩
  refine ⟨fun c => h24 ?_, fun c11 => ⟨_, e3_breaks12 l _ T hR' hL hx.2.1, ?_⟩⟩
  · unfold alw; rw [zb_1.mp c]; simp
  have c11 := zb_0.mp (Decidable.not_not.mp c11)
  rintro r h' ⟨rfl, rfl⟩
  refine ⟨fun c => h24 ?_, fun c12 => ⟨rfl, ?_, rfl⟩⟩
  · unfold alw; rw [zb_1.mp c]; simp
  have c12 := zb_0.mp (Decidable.not_not.mp c12)
  unfold alw b7
  rw [c7, c8, c9, c10, c11, c12]; rfl
