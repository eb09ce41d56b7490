/-! StepRules: a step looked at -/
def lkz (z : st_T) (x y : Nat) : st_T := fa (fa (fs (fs z 18 1 (nI (chd x))) 18 2 (nI (chd y))) 19 (up4 (z.2.1 19) x)) 20 (up4 (z.2.1 20) y)
theorem e3_lookAt (l : Launch) (z : st_T) {x y : Nat} (hx : x < 2 ^ 28) (hy : y < 2 ^ 28) : ri_Ev l y3_lookAt w3_lookAt r3_lookAt 0 0 [.ref 34, .int (nI x), .int (nI y)] (st_h z) (ri_vo (st_h (lkz z x y))) := by
  refine ri_ev (t3_lookAt l _) rfl rfl rfl (Nat.le_of_ble_eq_true rfl) rfl (z3_lookAt l _) (fun J hJ => ?_)
  refine ri_run_ok hJ [] 40 0 0 0 _ _ _ ?_
  refine ⟨_, e11_chordN l hx _, ?_⟩
  rintro r h' ⟨rfl, rfl⟩
  refine ⟨_, e11_chordN l hy _, ?_⟩
  rintro r h' ⟨rfl, rfl⟩
  refine ⟨_, e11_unpack l hx _ (q := 35) rfl rfl, ?_⟩
  rintro r h' ⟨rfl, rfl⟩
  refine ⟨_, e11_unpack l hy _ (q := 36) rfl rfl, ?_⟩
  rintro r h' ⟨rfl, rfl⟩
  exact ⟨rfl, rfl⟩
/-- what is looked at -/
def LK (z : st_T) (x y : Nat) : Prop := z.1 18 1 = nI (chd x) ∧ z.1 18 2 = nI (chd y) ∧ (∀ v, v < 4 → z.2.1 19 v = nI (pit x v)) ∧ (∀ v, v < 4 → z.2.1 20 v = nI (pit y v))
theorem LK_lkz (z : st_T) (x y : Nat) : LK (lkz z x y) x y := ⟨rfl, rfl, fun v hv => up4_at _ x hv, fun v hv => up4_at _ y hv⟩
theorem md_lkz (z : st_T) (x y : Nat) : md [18, 19, 20] z (lkz z x y) := md_tr (md_tr (md_tr (md_fs (by decide)) (md_fs (by decide))) (md_fa (by decide))) (md_fa (by decide))
theorem e3_breaks7 (l : Launch) (z : st_T) (T : tT) {x y : Nat} (hR : RH z T) (hL : LK z x y) (hx : chd x < 13) (hy : chd y < 13) : ri_Ev l y3_breaks7 w3_breaks7 r3_breaks7 0 0 [.ref 34] (st_h z) (ri_is (zb (unt (chd x) (chd y) == 9)) (st_h z)) := by
  refine ri_ev (t3_breaks7 l _) rfl rfl rfl (Nat.le_of_ble_eq_true rfl) rfl (z3_breaks7 l _) (fun J hJ => ?_)
  refine ri_run_ok hJ [] 40 0 0 0 _ _ _ ?_
  have e := e1_unitsBetween l z T hR hx hy
  rw [← hL.1, ← hL.2.1] at e
  refine ⟨_, e, ?_⟩
  rintro r h' ⟨rfl, rfl⟩
  by_cases hb : unt (chd x) (chd y) = 9
  · refine ⟨fun c => absurd (show nU (unt (chd x) (chd y)) = -1 by rw [hb]; rfl) c, fun c => ⟨rfl, ?_, rfl⟩⟩
    rw [hb]; rfl
  · refine ⟨fun c => ⟨rfl, ?_, rfl⟩, fun c => absurd (show ¬ nU (unt (chd x) (chd y)) = -1 from ?_) c⟩
    · rw [show (unt (chd x) (chd y) == 9) = false by simpa using hb]; rfl
    · sorry
