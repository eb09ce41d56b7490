/-! contracts: Code, Layer, Score's and Harmony's small methods -/
def jv_pitch (x v : Int32) : Int32 := 36 + ((x >>> ((4 + 6 * (3 - v)) &&& 31)) &&& 63)
theorem e11_pitchOf (l : Launch) (x v : Int32) (h : List ri_C) : ri_Ev l y11_pitchOf w11_pitchOf r11_pitchOf 0 0 [.int x, .int v] h (ri_is (jv_pitch x v) h) :=
  ri_ev (t11_pitchOf l _) rfl rfl rfl (Nat.le_of_ble_eq_true rfl) rfl (z11_pitchOf l _) (fun J hJ => ri_run_ok hJ [] 20 0 0 0 _ _ _ ⟨rfl, rfl⟩)
theorem e11_chordOf (l : Launch) (x : Int32) (h : List ri_C) : ri_Ev l y11_chordOf w11_chordOf r11_chordOf 0 0 [.int x] h (ri_is (x &&& 15) h) :=
  ri_ev (t11_chordOf l _) rfl rfl rfl (Nat.le_of_ble_eq_true rfl) rfl (z11_chordOf l _) (fun J hJ => ri_run_ok hJ [] 20 0 0 0 _ _ _ ⟨rfl, rfl⟩)
theorem e11_withVoice (l : Launch) (u p : Int32) (h : List ri_C) : ri_Ev l y11_withVoice w11_withVoice r11_withVoice 0 0 [.int u, .int p] h (ri_is ((u <<< ((6 : Int32) &&& 31)) ||| (p - 36)) h) :=
  ri_ev (t11_withVoice l _) rfl rfl rfl (Nat.le_of_ble_eq_true rfl) rfl (z11_withVoice l _) (fun J hJ => ri_run_ok hJ [] 20 0 0 0 _ _ _ ⟨rfl, rfl⟩)
theorem e11_withChord (l : Launch) (u c : Int32) (h : List ri_C) : ri_Ev l y11_withChord w11_withChord r11_withChord 0 0 [.int u, .int c] h (ri_is ((u <<< ((4 : Int32) &&& 31)) ||| c) h) :=
  ri_ev (t11_withChord l _) rfl rfl rfl (Nat.le_of_ble_eq_true rfl) rfl (z11_withChord l _) (fun J hJ => ri_run_ok hJ [] 20 0 0 0 _ _ _ ⟨rfl, rfl⟩)
/-- Java's rest -/
def jrem (x y : Int32) : Int32 := x - x / y * y
def tcls (pc : Int32) : Nat → Int32 → Int32 → Int32
  | 0, _, t => t
  | n + 1, w, t => tcls pc n (w >>> ((6 : Int32) &&& 31)) (if jrem (36 + (w &&& 63)) 12 = pc then t + 1 else t)
theorem e11_timesClass (l : Launch) (x pc : Int32) (h : List ri_C) : ri_Ev l y11_timesClass w11_timesClass r11_timesClass 0 0 [.int x, .int pc] h (ri_is (tcls pc 4 (x >>> ((4 : Int32) &&& 31)) 0) h) := by
  refine ri_ev (t11_timesClass l _) rfl rfl rfl (Nat.le_of_ble_eq_true rfl) rfl (z11_timesClass l _) (fun J hJ => ?_)
  have loop : ∀ (n : Nat), n ≤ 4 → ∀ (w t : Int32), tcls pc n w t = tcls pc 4 (x >>> ((4 : Int32) &&& 31)) 0 → J 8 0 0 [some (.int x), some (.int pc), some (.int t), some (.int w), some (.int (nI n))] [] h := by
    intro n
    induction n with
    | zero =>
      intro _ w t e
      refine ri_go hJ [8] 30 8 rfl ?_
      exact ⟨fun _ => ⟨by rw [← e]; rfl, rfl⟩, fun c => absurd (by decide) c⟩
    | succ n ih =>
      intro hn w t e
      have e1 := pk_m1 n
      refine ri_go hJ [8] 30 8 rfl ?_
      refine ⟨fun c => absurd c (nI_nle (Nat.succ_pos n) (by omega)), fun _ => ⟨by decide, fun c => ?_, fun c => ?_⟩⟩
      · have := ih (by omega) (w >>> ((6 : Int32) &&& 31)) t (by rw [← e]; show _ = tcls pc n _ (if _ then _ else _); rw [if_neg (show ¬ jrem (36 + (w &&& 63)) 12 = pc from c)])
        rw [← e1] at this
        exact this
      · have := ih (by omega) (w >>> ((6 : Int32) &&& 31)) (t + 1) (by rw [← e]; show _ = tcls pc n _ (if _ then _ else _); rw [if_pos (show jrem (36 + (w &&& 63)) 12 = pc from Decidable.not_not.mp c)])
        rw [← e1] at this
        exact this
  exact ri_run_ok hJ [8] 30 0 0 0 _ _ _ (loop 4 (Nat.le_refl 4) _ _ rfl)
theorem e5_kept (l : Launch) (q : Nat) (a : Int32) (c m : Value) (h : List ri_C) (hq : ri_at h q = some (.inr (5, [.int a, c, m]))) (h16 : Nat.ble 16 q = true) : ri_Ev l y5_kept w5_kept r5_kept 0 0 [.ref q] h (ri_is (if (400 : Int32) < a then 400 else a) h) := by
  refine ri_ev (t5_kept l _) rfl rfl rfl (Nat.le_of_ble_eq_true rfl) rfl (z5_kept l _) (fun J hJ => ?_)
  refine ri_run_ok hJ [] 20 0 0 0 _ _ _ ?_
  conv => whnf
  rw [hq]
  conv => whnf
  rw [h16]
  exact ⟨rfl, rfl⟩
theorem e0_lowAt (l : Launch) (z : st_T) (v i : Int32) (h1 : vp_in (i * 4 + v) 64) (h2 : vp_in v 4) : ri_Ev l y0_lowAt w0_lowAt r0_lowAt 0 0 [.ref 17, .int v, .int i] (st_h z) (ri_is (if z.2.1 2 (i * 4 + v).toNatClampNeg = -2 then z.2.1 7 v.toNatClampNeg else if z.2.1 7 v.toNatClampNeg < z.2.1 2 (i * 4 + v).toNatClampNeg then z.2.1 2 (i * 4 + v).toNatClampNeg else z.2.1 7 v.toNatClampNeg) (st_h z)) := by
  refine ri_ev (t0_lowAt l _) rfl rfl rfl (Nat.le_of_ble_eq_true rfl) rfl (z0_lowAt l _) (fun J hJ => ?_)
  refine ri_run_ok hJ [] 40 0 0 0 _ _ _ ?_
  refine ⟨h1, fun c => ⟨h2, ?_⟩, fun c => ⟨h2, ?_⟩⟩
  · exact ⟨by rw [if_neg c], rfl⟩
  · exact ⟨by rw [if_pos (Decidable.not_not.mp c)], rfl⟩
theorem e0_highAt (l : Launch) (z : st_T) (v i : Int32) (h1 : vp_in (i * 4 + v) 64) (h2 : vp_in v 4) : ri_Ev l y0_highAt w0_highAt r0_highAt 0 0 [.ref 17, .int v, .int i] (st_h z) (ri_is (if z.2.1 2 (i * 4 + v).toNatClampNeg = -2 then z.2.1 8 v.toNatClampNeg else if z.2.1 2 (i * 4 + v).toNatClampNeg < z.2.1 8 v.toNatClampNeg then z.2.1 2 (i * 4 + v).toNatClampNeg else z.2.1 8 v.toNatClampNeg) (st_h z)) := by
  refine ri_ev (t0_highAt l _) rfl rfl rfl (Nat.le_of_ble_eq_true rfl) rfl (z0_highAt l _) (fun J hJ => ?_)
  refine ri_run_ok hJ [] 40 0 0 0 _ _ _ ?_
  refine ⟨h1, fun c => ⟨h2, ?_⟩, fun c => ⟨h2, ?_⟩⟩
  · exact ⟨by rw [if_neg c], rfl⟩
  · exact ⟨by rw [if_pos (Decidable.not_not.mp c)], rfl⟩
theorem e0_isLast (l : Launch) (z : st_T) (i : Int32) : ri_Ev l y0_isLast w0_isLast r0_isLast 0 0 [.ref 17, .int i] (st_h z) (ri_is (zb (decide (i = z.1 1 0 - 1))) (st_h z)) := by
  refine ri_ev (t0_isLast l _) rfl rfl rfl (Nat.le_of_ble_eq_true rfl) rfl (z0_isLast l _) (fun J hJ => ?_)
  refine ri_run_ok hJ [] 40 0 0 0 _ _ _ ?_
  refine ⟨fun c => ?_, fun c => ?_⟩
  · exact ⟨rfl, by rw [decide_eq_false c]; rfl, rfl⟩
  · exact ⟨rfl, by rw [decide_eq_true (Decidable.not_not.mp c)]; rfl, rfl⟩
