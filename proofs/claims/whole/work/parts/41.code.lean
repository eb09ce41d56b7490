theorem e11_pitchOf (l : Launch) (x v : Int32) (h : List ri_C) : ri_Ev l y11_pitchOf w11_pitchOf r11_pitchOf 0 0 [.int x, .int v] h (fun r h' => r = some (.int (36 + ((x >>> ((4 + 6 * (3 - v)) &&& 31)) &&& 63))) ∧ h' = h) :=
  ri_ev (t11_pitchOf l _) rfl rfl rfl (Nat.le_of_ble_eq_true rfl) rfl (z11_pitchOf l _) (fun J hJ => ri_run_ok hJ [] 20 0 0 0 _ _ _ ⟨rfl, rfl⟩)
theorem e11_chordOf (l : Launch) (x : Int32) (h : List ri_C) : ri_Ev l y11_chordOf w11_chordOf r11_chordOf 0 0 [.int x] h (fun r h' => r = some (.int (x &&& 15)) ∧ h' = h) :=
  ri_ev (t11_chordOf l _) rfl rfl rfl (Nat.le_of_ble_eq_true rfl) rfl (z11_chordOf l _) (fun J hJ => ri_run_ok hJ [] 20 0 0 0 _ _ _ ⟨rfl, rfl⟩)
theorem e5_kept (l : Launch) (q : Nat) (a : Int32) (c m : Value) (h : List ri_C) (hq : ri_at h q = some (.inr (5, [.int a, c, m]))) (h16 : Nat.ble 16 q = true) : ri_Ev l y5_kept w5_kept r5_kept 0 0 [.ref q] h (fun r h' => r = some (.int (if (400 : Int32) < a then 400 else a)) ∧ h' = h) := by
  refine ri_ev (t5_kept l _) rfl rfl rfl (Nat.le_of_ble_eq_true rfl) rfl (z5_kept l _) (fun J hJ => ?_)
  refine ri_run_ok hJ [] 20 0 0 0 _ _ _ ?_
  conv => whnf
  rw [hq]
  conv => whnf
  rw [h16]
  exact ⟨rfl, rfl⟩
theorem e9_isPlace (l : Launch) (z : st_T) (i : Int32) : ri_Ev l y9_isPlace w9_isPlace r9_isPlace 0 0 [.ref 16, .int i] (st_h z) (fun r h' => r = some (.int (if 0 ≤ i ∧ i < z.1 1 0 then 1 else 0)) ∧ h' = st_h z) := by
  refine ri_ev (t9_isPlace l _) rfl rfl rfl (Nat.le_of_ble_eq_true rfl) rfl (z9_isPlace l _) (fun J hJ => ?_)
  refine ri_run_ok hJ [] 20 0 0 0 _ _ _ ?_
  refine ⟨fun c1 => ?_, fun c1 => ⟨fun c2 => ?_, fun c2 => ?_⟩⟩
  · conv => whnf
    sorry
  · conv => whnf
    sorry
  · sorry
