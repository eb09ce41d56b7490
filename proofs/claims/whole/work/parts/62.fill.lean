/-! rules 4 and 5; limits; a place's states one by one -/
theorem tmem_rt (T : tT) : ∀ c k, c < 13 → k < 3 → tmem T c k < 12 := by
  intro c k hc hk
  have h1 : ∀ c, c < 13 → ∀ k, k < 3 → mJ.getD (4 * c + k) 99 ≠ 99 := by decide +kernel
  have h2 : ∀ c, c < 13 → ∀ k, k < 3 → mN.getD (4 * c + k) 99 ≠ 99 := by decide +kernel
  have h : tdeg T c k ≠ 99 := by
    unfold tdeg
    split
    · exact h2 c hc k hk
    · exact h1 c hc k hk
  unfold tmem
  rw [if_neg h]
  exact Nat.mod_lt _ (by decide)
def ldc (T : tT) : Nat := (T 8 0 + 11) % 12
def k45 (T : tT) (x : Nat) : Bool := !(cntm T x 0 == 0) && (!(cntm T x 1 == 0) && ((tmem T (chd x) 3 == 99 || cntm T x 3 == 1) && (!(gl T (chd x)) || decide (cntc x (ldc T) < 2))))
theorem cntm_c {T : tT} {x k : Nat} (h : ¬ tmem T (chd x) k = 99) : cntm T x k = cntc x (tmem T (chd x) k) := by unfold cntm; rw [if_neg h]
theorem e2_keeps (l : Launch) (z : st_T) (T : tT) (hW : TW T) (hR : RH z T) {x : Nat} (hx : x < 2 ^ 28) (hc : chd x < 13) : ri_Ev l y2_keepsRules4And5 w2_keepsRules4And5 r2_keepsRules4And5 0 0 [.ref 30, .int (nI x), .int (nI (chd x))] (st_h z) (ri_is (zb (k45 T x)) (st_h z)) := by
  refine ri_ev (t2_keepsRules4And5 l _) rfl rfl rfl (Nat.le_of_ble_eq_true rfl) rfl (z2_keepsRules4And5 l _) (fun J hJ => ?_)
  have m0 := tmem_rt T (chd x) 0 hc (by decide)
  have m1 := tmem_rt T (chd x) 1 hc (by decide)
  have m3 := tmem_lt T (chd x) 3
  have c0 := cntm_c (T := T) (x := x) (k := 0) (by omega)
  have c1 := cntm_c (T := T) (x := x) (k := 1) (by omega)
  have hcl : ∀ p, cntc x p < 2 ^ 31 := fun p => Nat.lt_of_le_of_lt (cntc_le x p) (by decide)
  have n0 : n9 (tmem T (chd x) 0) = nI (tmem T (chd x) 0) := by unfold n9; rw [if_neg (by omega)]
  have n1 : n9 (tmem T (chd x) 1) = nI (tmem T (chd x) 1) := by unfold n9; rw [if_neg (by omega)]
  have k16 : k45 T x = false → ∀ o, J 16 0 0 [some (.ref 30), some (.int (nI x)), some (.int (nI (chd x))), o] [] (st_h z) := by
    intro e o
    refine ri_go hJ [] 90 16 rfl ?_
    exact ⟨rfl, by rw [e]; rfl, rfl⟩
  have k46 : k45 T x = true → ∀ o, J 46 0 0 [some (.ref 30), some (.int (nI x)), some (.int (nI (chd x))), o] [] (st_h z) := by
    intro e o
    refine ri_go hJ [] 90 46 rfl ?_
    exact ⟨rfl, by rw [e]; rfl, rfl⟩
  have k48 : k45 T x = false → ∀ o, J 48 0 0 [some (.ref 30), some (.int (nI x)), some (.int (nI (chd x))), o] [] (st_h z) := by
    intro e o
    refine ri_go hJ [] 90 48 rfl ?_
    exact ⟨rfl, by rw [e]; rfl, rfl⟩
  have k34 : k45 T x = (!(gl T (chd x)) || decide (cntc x (ldc T) < 2)) → ∀ o, J 34 0 0 [some (.ref 30), some (.int (nI x)), some (.int (nI (chd x))), o] [] (st_h z) := by
    intro e o
    refine ri_go hJ [46, 48] 90 34 rfl ?_
    refine ⟨_, e1_guardsLeading l z T hW hR hc, ?_⟩
    rintro r h' ⟨rfl, rfl⟩
    have ld := Nat.mod_lt (T 8 0 + 11) (show 0 < 12 by decide)
    refine ⟨fun c => k46 ?_ _, fun c => ?_⟩
    · rw [e, zb_0.mp c]; rfl
    · have et := e11_timesN l hx (p := ldc T) (Nat.lt_trans ld (by decide)) (st_h z)
      rw [show nI (ldc T) = z.1 9 2 from hR.2.2.1.symm] at et
      refine ⟨_, et, ?_⟩
      rintro r h' ⟨rfl, rfl⟩
      refine ⟨fun d => k48 ?_ _, fun d => k46 ?_ _⟩
      · have d : (2 : Int32) ≤ nI (cntc x (ldc T)) := d
        rw [show (2 : Int32) = nI 2 from rfl, nn_le (by decide) (hcl _)] at d
        rw [e, zb_1.mp c, decide_eq_false (by omega)]; rfl
      · have d : ¬ (2 : Int32) ≤ nI (cntc x (ldc T)) := d
        rw [show (2 : Int32) = nI 2 from rfl, nn_le (by decide) (hcl _)] at d
        rw [e, decide_eq_true (show cntc x (ldc T) < 2 by omega)]; simp
  have k18 : ¬ cntm T x 0 = 0 → ¬ cntm T x 1 = 0 → J 18 0 0 [some (.ref 30), some (.int (nI x)), some (.int (nI (chd x))), none] [] (st_h z) := by
    intro g0 g1
    refine ri_go hJ [34] 90 18 rfl ?_
    refine ⟨_, e1_memberClass l z T hR hc (k := 3) (by decide), ?_⟩
    rintro r h' ⟨rfl, rfl⟩
    refine ⟨fun c => k34 ?_ _, fun c => ?_⟩
    · have c : n9 (tmem T (chd x) 3) = -2 := c
      rw [n9_none m3] at c
      unfold k45
      rw [ne_b g0, ne_b g1, eq_b c]; rfl
    · have c : ¬ n9 (tmem T (chd x) 3) = -2 := c
      rw [n9_none m3] at c
      have n3 : n9 (tmem T (chd x) 3) = nI (tmem T (chd x) 3) := by unfold n9; rw [if_neg c]
      have et := e11_timesN l hx (p := tmem T (chd x) 3) (by omega) (st_h z)
      rw [← n3] at et
      refine ⟨_, et, ?_⟩
      rintro r h' ⟨rfl, rfl⟩
      refine ⟨fun d => k34 ?_ _, fun d => ⟨rfl, ?_, rfl⟩⟩
      · have d : nI (cntc x (tmem T (chd x) 3)) = 1 := d
        rw [nk_eq (k := 1) (b := 1) rfl (hcl _) (by decide), ← cntm_c c] at d
        unfold k45
        rw [ne_b g0, ne_b g1, eq_b d]; simp
      · have d : ¬ nI (cntc x (tmem T (chd x) 3)) = 1 := d
        rw [nk_eq (k := 1) (b := 1) rfl (hcl _) (by decide), ← cntm_c c] at d
        unfold k45
        rw [ne_b c, ne_b d]; simp; rfl
  refine ri_run_ok hJ [16, 18] 90 0 0 0 _ _ _ ?_
  refine ⟨_, e1_memberClass l z T hR hc (k := 0) (by decide), ?_⟩
  rintro r h' ⟨rfl, rfl⟩
  have et0 := e11_timesN l hx (p := tmem T (chd x) 0) (by omega) (st_h z)
  rw [← n0] at et0
  refine ⟨_, et0, ?_⟩
  rintro r h' ⟨rfl, rfl⟩
  refine ⟨fun c => k16 ?_ _, fun c => ⟨_, e1_memberClass l z T hR hc (k := 1) (by decide), ?_⟩⟩
  · have c : nI (cntc x (tmem T (chd x) 0)) = 0 := c
    rw [nk_eq (k := 0) (b := 0) rfl (hcl _) (by decide), ← c0] at c
    unfold k45
    rw [eq_b c]; rfl
  · rintro r h' ⟨rfl, rfl⟩
    have c : ¬ nI (cntc x (tmem T (chd x) 0)) = 0 := c
    rw [nk_eq (k := 0) (b := 0) rfl (hcl _) (by decide), ← c0] at c
    have et1 := e11_timesN l hx (p := tmem T (chd x) 1) (by omega) (st_h z)
    rw [← n1] at et1
    refine ⟨_, et1, ?_⟩
    rintro r h' ⟨rfl, rfl⟩
    refine ⟨fun d => k18 c ?_, fun d => k16 ?_ _⟩
    · have d : ¬ nI (cntc x (tmem T (chd x) 1)) = 0 := d
      rw [nk_eq (k := 0) (b := 0) rfl (hcl _) (by decide), ← c1] at d
      exact d
    · have d : nI (cntc x (tmem T (chd x) 1)) = 0 := Decidable.not_not.mp d
      rw [nk_eq (k := 0) (b := 0) rfl (hcl _) (by decide), ← c1] at d
      unfold k45
      rw [eq_b d]; simp
def lowN (T : tT) (i v : Nat) : Nat := if T 0 (4 * i + v) = 0 then T 6 v else if T 6 v < T 0 (4 * i + v) then T 0 (4 * i + v) else T 6 v
def highN (T : tT) (i v : Nat) : Nat := if T 0 (4 * i + v) = 0 then T 7 v else if T 0 (4 * i + v) < T 7 v then T 0 (4 * i + v) else T 7 v
theorem nC_none {n : Nat} (h : n < 2 ^ 31) : (nC n = -2) = (n = 0) := by
  unfold nC
  by_cases hn : n = 0
  · rw [if_pos hn]; exact propext ⟨fun _ => hn, fun _ => rfl⟩
  · rw [if_neg hn]; exact propext ⟨fun q => absurd q (nI_m2 h), fun q => absurd q hn⟩
theorem lim_lt {T : tT} (hW : TW T) {i v : Nat} (hi : i < 16) (hv : v < 4) : lowN T i v < 100 ∧ highN T i v ≤ 84 ∧ 36 ≤ lowN T i v := by
  have h1 := hW.2.2.2.1 (4 * i + v) (by omega)
  have h2 := hW.2.2.2.2.2.2.2.1 v hv
  unfold lowN highN
  repeat' split
  all_goals omega
theorem e0_lowAtN (l : Launch) (z : st_T) (T : tT) (hW : TW T) (hS : RS z T) {i v : Nat} (hi : i < 16) (hv : v < 4) : ri_Ev l y0_lowAt w0_lowAt r0_lowAt 0 0 [.ref 17, .int (nI v), .int (nI i)] (st_h z) (ri_is (nI (lowN T i v)) (st_h z)) := by
  have h := e0_lowAt l z (nI v) (nI i) (by rw [ix4]; exact vp_in_nI (by omega) (by decide)) (vp_in_nI hv (by decide))
  have h1 := hW.2.2.2.1 (4 * i + v) (by omega)
  have h2 := hW.2.2.2.2.2.2.2.1 v hv
  rw [ix4, cl31 (by omega), cl31 (by omega), hS.1 _ (by omega), (hS.2.2.2.1 v hv).1] at h
  have e : (if nC (T 0 (4 * i + v)) = -2 then nI (T 6 v) else if nI (T 6 v) < nC (T 0 (4 * i + v)) then nC (T 0 (4 * i + v)) else nI (T 6 v)) = nI (lowN T i v) := by
    unfold lowN
    by_cases h0 : T 0 (4 * i + v) = 0
    · rw [if_pos (by rw [nC_none (by omega)]; exact h0), if_pos h0]
    · rw [if_neg (by rw [nC_none (by omega)]; exact h0), if_neg h0, show nC (T 0 (4 * i + v)) = nI (T 0 (4 * i + v)) by unfold nC; rw [if_neg h0]]
      by_cases h3 : T 6 v < T 0 (4 * i + v)
      · rw [if_pos (by rw [nn_lt (by omega) (by omega)]; exact h3), if_pos h3]
      · rw [if_neg (by rw [nn_lt (by omega) (by omega)]; exact h3), if_neg h3]
  rw [e] at h
  exact h
theorem e0_highAtN (l : Launch) (z : st_T) (T : tT) (hW : TW T) (hS : RS z T) {i v : Nat} (hi : i < 16) (hv : v < 4) : ri_Ev l y0_highAt w0_highAt r0_highAt 0 0 [.ref 17, .int (nI v), .int (nI i)] (st_h z) (ri_is (nI (highN T i v)) (st_h z)) := by
  have h := e0_highAt l z (nI v) (nI i) (by rw [ix4]; exact vp_in_nI (by omega) (by decide)) (vp_in_nI hv (by decide))
  have h1 := hW.2.2.2.1 (4 * i + v) (by omega)
  have h2 := hW.2.2.2.2.2.2.2.1 v hv
  rw [ix4, cl31 (by omega), cl31 (by omega), hS.1 _ (by omega), (hS.2.2.2.1 v hv).2] at h
  have e : (if nC (T 0 (4 * i + v)) = -2 then nI (T 7 v) else if nC (T 0 (4 * i + v)) < nI (T 7 v) then nC (T 0 (4 * i + v)) else nI (T 7 v)) = nI (highN T i v) := by
    unfold highN
    by_cases h0 : T 0 (4 * i + v) = 0
    · rw [if_pos (by rw [nC_none (by omega)]; exact h0), if_pos h0]
    · rw [if_neg (by rw [nC_none (by omega)]; exact h0), if_neg h0, show nC (T 0 (4 * i + v)) = nI (T 0 (4 * i + v)) by unfold nC; rw [if_neg h0]]
      by_cases h3 : T 0 (4 * i + v) < T 7 v
      · rw [if_pos (by rw [nn_lt (by omega) (by omega)]; exact h3), if_pos h3]
      · rw [if_neg (by rw [nn_lt (by omega) (by omega)]; exact h3), if_neg h3]
  rw [e] at h
  exact h
def BT (z : st_T) (T : tT) (i n : Nat) : Prop := ∀ v, v < n → z.2.1 15 v = nI (lowN T i v) ∧ z.2.1 16 v = nI (highN T i v)
theorem e2_setLimits (l : Launch) (z : st_T) (T : tT) (hW : TW T) (hS : RS z T) {i : Nat} (hi : i < 16) : ri_Ev l y2_setLimits w2_setLimits r2_setLimits 0 0 [.ref 30, .int (nI i)] (st_h z) (ri_zx fun z' => BT z' T i 4 ∧ md [15, 16] z z') := by
  refine ri_ev (t2_setLimits l _) rfl rfl rfl (Nat.le_of_ble_eq_true rfl) rfl (z2_setLimits l _) (fun J hJ => ?_)
  have loop : ∀ n v, n + v = 4 → ∀ z1, BT z1 T i v → md [15, 16] z z1 → J 2 0 0 [some (.ref 30), some (.int (nI i)), some (.int (nI v))] [] (st_h z1) := by
    intro n
    induction n with
    | zero =>
      intro v hv z1 hB hm
      have hv4 : v = 4 := by omega
      subst hv4
      refine ri_go hJ [2] 60 2 rfl ?_
      exact ⟨fun _ => ⟨rfl, _, rfl, hB, hm⟩, fun c => absurd (by decide) c⟩
    | succ n ih =>
      intro v hv z1 hB hm
      have e1 := nI_1 v
      have iv : vp_in (nI v) 4 := vp_in_nI (by omega) (by decide)
      have hS1 := RS_md hS hm (by decide)
      refine ri_go hJ [2, 14] 60 2 rfl ?_
      refine ⟨fun c => absurd c (nI_ge (a := v) (b := 4) (by omega) (by decide)), fun _ => ⟨_, e0_lowAtN l z1 T hW hS1 hi (by omega), ?_⟩⟩
      rintro r h' ⟨rfl, rfl⟩
      refine ⟨iv, ?_⟩
      obtain ⟨z2, hz2⟩ : ∃ z2, z2 = fa z1 15 (upd (z1.2.1 15) (nI v).toNatClampNeg (nI (lowN T i v))) := ⟨_, rfl⟩
      have hm2 : md [15, 16] z z2 := by rw [hz2]; exact md_tr hm (md_fa (by decide))
      have hB2 : z2.2.1 15 v = nI (lowN T i v) := by rw [hz2, fa_self, cl31 (by omega)]; exact pk_us
      have hB3 : ∀ w, w < v → z2.2.1 15 w = nI (lowN T i w) ∧ z2.2.1 16 w = nI (highN T i w) := fun w hw => by
        rw [hz2]
        refine ⟨?_, (hB w hw).2⟩
        rw [fa_self, cl31 (by omega), pk_un (by omega)]
        exact (hB w hw).1
      have k14 : J 14 0 0 [some (.ref 30), some (.int (nI i)), some (.int (nI v))] [] (st_h z2) := by
        refine ri_go hJ [2] 60 14 rfl ?_
        refine ⟨_, e0_highAtN l z2 T hW (RS_md hS hm2 (by decide)) hi (v := v) (by omega), ?_⟩
        rintro r h' ⟨rfl, rfl⟩
        refine ⟨iv, ?_⟩
        have := ih (v + 1) (by omega) (fa z2 16 (upd (z2.2.1 16) (nI v).toNatClampNeg (nI (highN T i v)))) (fun w hw => by
          refine ⟨?_, ?_⟩
          · show z2.2.1 15 w = _
            by_cases hwv : w = v
            · rw [hwv]; exact hB2
            · exact (hB3 w (by omega)).1
          · rw [fa_self, cl31 (by omega)]
            by_cases hwv : w = v
            · rw [hwv]; exact pk_us
            · rw [pk_un hwv]; exact (hB3 w (by omega)).2) (md_tr hm2 (md_fa (by decide)))
        rw [← e1] at this
        exact this
      rw [hz2] at k14
      exact k14
  exact ri_run_ok hJ [2] 60 0 0 0 _ _ _ (loop 4 0 rfl z (fun v hv => absurd hv (by omega)) (md_rf _ _))
