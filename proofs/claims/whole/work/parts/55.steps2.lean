/-! StepRules: rules 8, 11, 12; allow and barring -/
def DS (x : Nat) : Prop := ∀ u w, u ≤ w → w < 4 → pit x w ≤ pit x u
def b8p (x y u w : Nat) : Bool := ((pit x u - pit x w) % 12 == 0 || (pit x u - pit x w) % 12 == 7) && ((pit x u - pit x w) % 12 == (pit y u - pit y w) % 12 && (!(pit x u == pit y u) && !(pit x w == pit y w)))
def b8 (x y u : Nat) : Bool := anf (b8p x y u) (3 - u) (u + 1)
theorem apart12 {a b : Nat} (ha : a < 2 ^ 30) (h : b ≤ a) : (nI a - nI b) - (nI a - nI b) / 12 * 12 = nI ((a - b) % 12) := by
  rw [pk_sub h]
  exact rem12 (by omega)
theorem e3_breaks8 (l : Launch) (z : st_T) {x y : Nat} (hL : LK z x y) (hx : DS x) (hy : DS y) : ri_Ev l y3_breaks8 w3_breaks8 r3_breaks8 0 0 [.ref 34] (st_h z) (ri_is (zb (anf (b8 x y) 3 0)) (st_h z)) := by
  refine ri_ev (t3_breaks8 l _) rfl rfl rfl (Nat.le_of_ble_eq_true rfl) rfl (z3_breaks8 l _) (fun J hJ => ?_)
  have outer : ∀ n u, n + u = 3 → anf (b8 x y) 3 0 = anf (b8 x y) n u → ∀ o2 o3, J 2 0 0 [some (.ref 34), some (.int (nI u)), o2, o3] [] (st_h z) := by
    intro n
    induction n with
    | zero =>
      intro u hu e o2 o3
      have hu3 : u = 3 := by omega
      subst hu3
      refine ri_go hJ [2] 90 2 rfl ?_
      exact ⟨fun _ => ⟨rfl, by rw [e]; rfl, rfl⟩, fun c => absurd (by decide) c⟩
    | succ n ih =>
      intro u hu e o2 o3
      have e1 := nI_1 u
      have inner : ∀ m w, m + w = 4 → u < w → (anf (b8 x y) 3 0 = (anf (b8p x y u) m w || anf (b8 x y) n (u + 1))) → ∀ o, J 9 0 0 [some (.ref 34), some (.int (nI u)), some (.int (nI w)), o] [] (st_h z) := by
        intro m
        induction m with
        | zero =>
          intro w hw huw em o
          have hw4 : w = 4 := by omega
          subst hw4
          refine ri_go hJ [2] 90 9 rfl ?_
          refine ⟨fun _ => ?_, fun c => absurd (by decide) c⟩
          have := ih (u + 1) (by omega) em (some (.int (nI 4))) o
          rw [← e1] at this
          exact this
        | succ m ihm =>
          intro w hw huw em o
          have f1 := nI_1 w
          have iu : vp_in (nI u) 4 := vp_in_nI (by omega) (by decide)
          have iw : vp_in (nI w) 4 := vp_in_nI (by omega) (by decide)
          have hr : (z.2.1 19 (nI u).toNatClampNeg - z.2.1 19 (nI w).toNatClampNeg) - (z.2.1 19 (nI u).toNatClampNeg - z.2.1 19 (nI w).toNatClampNeg) / 12 * 12 = nI ((pit x u - pit x w) % 12) := by
            rw [LK_a hL (by omega), LK_a hL (by omega)]
            exact apart12 (pl30 _ _) (hx u w (by omega) (by omega))
          have hr' : (z.2.1 20 (nI u).toNatClampNeg - z.2.1 20 (nI w).toNatClampNeg) - (z.2.1 20 (nI u).toNatClampNeg - z.2.1 20 (nI w).toNatClampNeg) / 12 * 12 = nI ((pit y u - pit y w) % 12) := by
            rw [LK_b hL (by omega), LK_b hL (by omega)]
            exact apart12 (pl30 _ _) (hy u w (by omega) (by omega))
          have rl := Nat.mod_lt (pit x u - pit x w) (show 0 < 12 by decide)
          have rl' := Nat.mod_lt (pit y u - pit y w) (show 0 < 12 by decide)
          have h62 : b8p x y u w = false → J 62 0 0 [some (.ref 34), some (.int (nI u)), some (.int (nI w)), some (.int ((z.2.1 19 (nI u).toNatClampNeg - z.2.1 19 (nI w).toNatClampNeg) - (z.2.1 19 (nI u).toNatClampNeg - z.2.1 19 (nI w).toNatClampNeg) / 12 * 12))] [] (st_h z) := by
            intro hb
            refine ri_go hJ [9] 90 62 rfl ?_
            have := ihm (w + 1) (by omega) (by omega) (by rw [em, anf_f hb]) (some (.int ((z.2.1 19 (nI u).toNatClampNeg - z.2.1 19 (nI w).toNatClampNeg) - (z.2.1 19 (nI u).toNatClampNeg - z.2.1 19 (nI w).toNatClampNeg) / 12 * 12)))
            rw [← f1] at this
            exact this
          have h29 : ((pit x u - pit x w) % 12 == 0 || (pit x u - pit x w) % 12 == 7) = true → J 29 0 0 [some (.ref 34), some (.int (nI u)), some (.int (nI w)), some (.int ((z.2.1 19 (nI u).toNatClampNeg - z.2.1 19 (nI w).toNatClampNeg) - (z.2.1 19 (nI u).toNatClampNeg - z.2.1 19 (nI w).toNatClampNeg) / 12 * 12))] [] (st_h z) := by
            intro h07
            refine ri_go hJ [62] 90 29 rfl ?_
            refine ⟨iu, iw, by decide, fun c => h62 ?_, fun c => ⟨iu, iu, fun d => h62 ?_, fun d => ⟨iw, iw, fun g => h62 ?_, fun g => ⟨rfl, ?_, rfl⟩⟩⟩⟩
            · have c : ¬ (z.2.1 19 (nI u).toNatClampNeg - z.2.1 19 (nI w).toNatClampNeg) - (z.2.1 19 (nI u).toNatClampNeg - z.2.1 19 (nI w).toNatClampNeg) / 12 * 12 = (z.2.1 20 (nI u).toNatClampNeg - z.2.1 20 (nI w).toNatClampNeg) - (z.2.1 20 (nI u).toNatClampNeg - z.2.1 20 (nI w).toNatClampNeg) / 12 * 12 := c
              rw [hr, hr', nn_eq (by omega) (by omega)] at c
              unfold b8p
              rw [show ((pit x u - pit x w) % 12 == (pit y u - pit y w) % 12) = false by simpa using c, Bool.false_and, Bool.and_false]
            · have d : z.2.1 19 (nI u).toNatClampNeg = z.2.1 20 (nI u).toNatClampNeg := d
              rw [LK_a hL (by omega), LK_b hL (by omega), nn_eq (pl31 _ _) (pl31 _ _)] at d
              unfold b8p
              rw [show (pit x u == pit y u) = true by simpa using d]
              simp
            · have g : z.2.1 19 (nI w).toNatClampNeg = z.2.1 20 (nI w).toNatClampNeg := g
              rw [LK_a hL (by omega), LK_b hL (by omega), nn_eq (pl31 _ _) (pl31 _ _)] at g
              unfold b8p
              rw [show (pit x w == pit y w) = true by simpa using g]
              simp
            · have c : (z.2.1 19 (nI u).toNatClampNeg - z.2.1 19 (nI w).toNatClampNeg) - (z.2.1 19 (nI u).toNatClampNeg - z.2.1 19 (nI w).toNatClampNeg) / 12 * 12 = (z.2.1 20 (nI u).toNatClampNeg - z.2.1 20 (nI w).toNatClampNeg) - (z.2.1 20 (nI u).toNatClampNeg - z.2.1 20 (nI w).toNatClampNeg) / 12 * 12 := Decidable.not_not.mp c
              have d : ¬ z.2.1 19 (nI u).toNatClampNeg = z.2.1 20 (nI u).toNatClampNeg := d
              have g : ¬ z.2.1 19 (nI w).toNatClampNeg = z.2.1 20 (nI w).toNatClampNeg := g
              rw [hr, hr', nn_eq (by omega) (by omega)] at c
              rw [LK_a hL (by omega), LK_b hL (by omega), nn_eq (pl31 _ _) (pl31 _ _)] at d g
              rw [em, anf_t (by unfold b8p; rw [h07, show ((pit x u - pit x w) % 12 == (pit y u - pit y w) % 12) = true by simpa using c, show (pit x u == pit y u) = false by simpa using d, show (pit x w == pit y w) = false by simpa using g]; rfl)]
              rfl
          refine ri_go hJ [29, 62] 90 9 rfl ?_
          refine ⟨fun c => absurd c (nI_ge (a := w) (b := 4) (by omega) (by decide)), fun _ => ⟨iu, iw, by decide, fun c => h29 ?_, fun c => ⟨fun d => h62 ?_, fun d => h29 ?_⟩⟩⟩
          · have c : (z.2.1 19 (nI u).toNatClampNeg - z.2.1 19 (nI w).toNatClampNeg) - (z.2.1 19 (nI u).toNatClampNeg - z.2.1 19 (nI w).toNatClampNeg) / 12 * 12 = 0 := c
            rw [hr, show (0 : Int32) = nI 0 from rfl, nn_eq (by omega) (by decide)] at c
            rw [c]; rfl
          · have c : ¬ (z.2.1 19 (nI u).toNatClampNeg - z.2.1 19 (nI w).toNatClampNeg) - (z.2.1 19 (nI u).toNatClampNeg - z.2.1 19 (nI w).toNatClampNeg) / 12 * 12 = 0 := c
            have d : ¬ (z.2.1 19 (nI u).toNatClampNeg - z.2.1 19 (nI w).toNatClampNeg) - (z.2.1 19 (nI u).toNatClampNeg - z.2.1 19 (nI w).toNatClampNeg) / 12 * 12 = 7 := d
            rw [hr, show (0 : Int32) = nI 0 from rfl, nn_eq (by omega) (by decide)] at c
            rw [hr, show (7 : Int32) = nI 7 from rfl, nn_eq (by omega) (by decide)] at d
            unfold b8p
            rw [show ((pit x u - pit x w) % 12 == 0) = false by simpa using c, show ((pit x u - pit x w) % 12 == 7) = false by simpa using d]
            rfl
          · have d : (z.2.1 19 (nI u).toNatClampNeg - z.2.1 19 (nI w).toNatClampNeg) - (z.2.1 19 (nI u).toNatClampNeg - z.2.1 19 (nI w).toNatClampNeg) / 12 * 12 = 7 := Decidable.not_not.mp d
            rw [hr, show (7 : Int32) = nI 7 from rfl, nn_eq (by omega) (by decide)] at d
            rw [d]; rfl
      refine ri_go hJ [9] 90 2 rfl ?_
      refine ⟨fun c => absurd c (nI_ge (a := u) (b := 3) (by omega) (by decide)), fun _ => ?_⟩
      have := inner (3 - u) (u + 1) (by omega) (by omega) (by rw [e]; rfl) o3
      rw [← e1] at this
      exact this
  exact ri_run_ok hJ [2] 90 0 0 0 _ _ _ (outer 3 0 rfl rfl _ _)
def b11v (T : tT) (x y v : Nat) : Bool := (pit x v % 12 == (T 8 0 + 11) % 12) && !(pit y v == pit x v + 1)
theorem e3_leadsAstray (l : Launch) (z : st_T) (T : tT) {x y v : Nat} (hR : RH z T) (hL : LK z x y) (hv : v < 4) : ri_Ev l y3_leadsAstray w3_leadsAstray r3_leadsAstray 0 0 [.ref 34, .int (nI v)] (st_h z) (ri_is (zb (b11v T x y v)) (st_h z)) := by
  refine ri_ev (t3_leadsAstray l _) rfl rfl rfl (Nat.le_of_ble_eq_true rfl) rfl (z3_leadsAstray l _) (fun J hJ => ?_)
  have iv : vp_in (nI v) 4 := vp_in_nI hv (by decide)
  have rl := Nat.mod_lt (T 8 0 + 11) (show 0 < 12 by decide)
  have rx := Nat.mod_lt (pit x v) (show 0 < 12 by decide)
  have hr : z.2.1 19 (nI v).toNatClampNeg - z.2.1 19 (nI v).toNatClampNeg / 12 * 12 = nI (pit x v % 12) := by
    rw [LK_a hL hv]; exact rem12 (pl31 _ _)
  refine ri_run_ok hJ [] 90 0 0 0 _ _ _ ?_
  refine ⟨iv, by decide, fun c => ⟨rfl, ?_, rfl⟩, fun c => ⟨iv, iv, fun d => ⟨rfl, ?_, rfl⟩, fun d => ⟨rfl, ?_, rfl⟩⟩⟩
  · have c : ¬ z.2.1 19 (nI v).toNatClampNeg - z.2.1 19 (nI v).toNatClampNeg / 12 * 12 = z.1 9 2 := c
    rw [hr, hR.2.2.1, nn_eq (by omega) (by omega)] at c
    unfold b11v
    rw [show (pit x v % 12 == (T 8 0 + 11) % 12) = false by simpa using c]; rfl
  · have d : z.2.1 20 (nI v).toNatClampNeg = z.2.1 19 (nI v).toNatClampNeg + 1 := d
    rw [LK_a hL hv, LK_b hL hv, nI_1, nn_eq (pl31 _ _) (by have := pit_lt x v; omega)] at d
    unfold b11v
    rw [show (pit y v == pit x v + 1) = true by simpa using d]; simp; rfl
  · have c : z.2.1 19 (nI v).toNatClampNeg - z.2.1 19 (nI v).toNatClampNeg / 12 * 12 = z.1 9 2 := Decidable.not_not.mp c
    have d : ¬ z.2.1 20 (nI v).toNatClampNeg = z.2.1 19 (nI v).toNatClampNeg + 1 := d
    rw [hr, hR.2.2.1, nn_eq (by omega) (by omega)] at c
    rw [LK_a hL hv, LK_b hL hv, nI_1, nn_eq (pl31 _ _) (by have := pit_lt x v; omega)] at d
    unfold b11v
    rw [show (pit x v % 12 == (T 8 0 + 11) % 12) = true by simpa using c, show (pit y v == pit x v + 1) = false by simpa using d]; rfl
