/-! the other constructors of the class -/
def ly (n : Nat) : List ri_C := [.inr (5, [.int 0, .ref (17 + n), .ref (18 + n)]), .inl (0, 400, .inl (fun _ => 0)), .inl (0, 400, .inl (fun _ => 0))]
theorem e5_init (l : Launch) (h : List ri_C) : ri_Ev l y5_init w5_init r5_init 2 800 [.ref (16 + h.length)] (h ++ [.inr (5, [.int 0, .null, .null])]) (ri_vo (h ++ ly h.length)) := by
  refine ri_ev (t5_init l _) rfl rfl rfl (Nat.le_of_ble_eq_true rfl) rfl (z5_init l _) (fun J hJ => ?_)
  refine ri_run_ok hJ [5] 20 0 0 0 _ _ _ ?_
  refine ⟨by decide, ?_⟩
  rw [List.append_assoc]
  refine go_put hJ rfl rfl rfl rfl ?_
  refine ri_go hJ [9] 20 6 rfl ?_
  refine ⟨by decide, ?_⟩
  rw [List.append_assoc]
  refine go_put hJ rfl rfl rfl rfl ?_
  refine ri_go hJ [] 20 10 rfl ?_
  refine ⟨rfl, congrArg (fun t => h ++ t) ?_⟩
  rw [List.length_append, List.length_append]
  show [Sum.inr (5, [Value.int 0, .ref (16 + (h.length + 1)), .ref (16 + (h.length + 2))]), _, _] = ly h.length
  rw [show 16 + (h.length + 1) = 17 + h.length by omega, show 16 + (h.length + 2) = 18 + h.length by omega]
  rfl
theorem e2_init (l : Launch) (x0 : ri_C) (z : st_T) : ri_Ev l y2_init w2_init r2_init 3 12 [.ref 30, .ref 17, .ref 25] (hv x0 z [.inr (2, [.null, .null, .null, .null, .null])]) (ri_vo (hv x0 z [.inr (2, [.ref 17, .ref 25, .ref 31, .ref 32, .ref 33]), .inl (0, 4, .inl (fun _ => 0)), .inl (0, 4, .inl (fun _ => 0)), .inl (0, 4, .inl (fun _ => 0))])) := by
  refine ri_ev (t2_init l _) rfl rfl rfl (Nat.le_of_ble_eq_true rfl) rfl (z2_init l _) (fun J hJ => ?_)
  refine ri_run_ok hJ [] 90 0 0 0 _ _ _ ?_
  exact ⟨by decide, by decide, by decide, rfl, rfl⟩
theorem e3_init (l : Launch) (x0 : ri_C) (z : st_T) : ri_Ev l y3_init w3_init r3_init 2 8 [.ref 34, .ref 25] (hv x0 z [.inr (2, [.ref 17, .ref 25, .ref 31, .ref 32, .ref 33]), .inl (0, 4, .inl (fun _ => 0)), .inl (0, 4, .inl (fun _ => 0)), .inl (0, 4, .inl (fun _ => 0)), .inr (3, [.null, .int 0, .int 0, .null, .null])]) (ri_vo (hv x0 z [.inr (2, [.ref 17, .ref 25, .ref 31, .ref 32, .ref 33]), .inl (0, 4, .inl (fun _ => 0)), .inl (0, 4, .inl (fun _ => 0)), .inl (0, 4, .inl (fun _ => 0)), .inr (3, [.ref 25, .int 0, .int 0, .ref 35, .ref 36]), .inl (0, 4, .inl (fun _ => 0)), .inl (0, 4, .inl (fun _ => 0))])) := by
  refine ri_ev (t3_init l _) rfl rfl rfl (Nat.le_of_ble_eq_true rfl) rfl (z3_init l _) (fun J hJ => ?_)
  refine ri_run_ok hJ [] 90 0 0 0 _ _ _ ?_
  exact ⟨by decide, by decide, rfl, rfl⟩
def gk (k : Nat) : Nat → Option Nat := fun i => bif Nat.blt i k then some (39 + 3 * i) else none
theorem gk_up (k : Nat) : va_up (gk k) k (some (39 + 3 * k)) = gk (k + 1) := by
  funext i
  by_cases e : i = k
  · subst e
    rw [va_up_self]
    unfold gk
    rw [show Nat.blt i (i + 1) = true from Nat.ble_eq_true_of_le (Nat.le_refl _)]; rfl
  · rw [va_up_ne _ _ e]
    unfold gk
    by_cases q : i < k
    · rw [show Nat.blt i k = true from Nat.ble_eq_true_of_le q, show Nat.blt i (k + 1) = true from Nat.ble_eq_true_of_le (by omega)]
    · rw [show Nat.blt i k = false from Bool.eq_false_iff.mpr (fun w => q (Nat.le_of_ble_eq_true w)), show Nat.blt i (k + 1) = false from Bool.eq_false_iff.mpr (fun w => by have := Nat.le_of_ble_eq_true w; omega)]
def lys : Nat → List ri_C
  | 0 => []
  | k + 1 => lys k ++ ly (23 + 3 * k)
def HH (x0 : ri_C) (z : st_T) (g : Nat → Option Nat) (k : Nat) (r : List ri_C) : List ri_C := hv x0 z (.inr (2, [.ref 17, .ref 25, .ref 31, .ref 32, .ref 33]) :: .inl (0, 4, .inl (fun _ => 0)) :: .inl (0, 4, .inl (fun _ => 0)) :: .inl (0, 4, .inl (fun _ => 0)) :: .inr (3, [.ref 25, .int 0, .int 0, .ref 35, .ref 36]) :: .inl (0, 4, .inl (fun _ => 0)) :: .inl (0, 4, .inl (fun _ => 0)) :: .inr (4, [.ref 17, .ref 30, .ref 38, .int 0]) :: .inl (2, 16, .inr g) :: (lys k ++ r))
theorem e4_init (l : Launch) (x0 : ri_C) (z : st_T) : ri_Ev l y4_init w4_init r4_init 49 12864 [.ref 37, .ref 17, .ref 30] (hv x0 z [.inr (2, [.ref 17, .ref 25, .ref 31, .ref 32, .ref 33]), .inl (0, 4, .inl (fun _ => 0)), .inl (0, 4, .inl (fun _ => 0)), .inl (0, 4, .inl (fun _ => 0)), .inr (3, [.ref 25, .int 0, .int 0, .ref 35, .ref 36]), .inl (0, 4, .inl (fun _ => 0)), .inl (0, 4, .inl (fun _ => 0)), .inr (4, [.null, .null, .null, .int 0])]) (ri_vo (HH x0 z (gk 16) 16 [])) := by
  refine ri_ev (t4_init l _) rfl rfl rfl (Nat.le_of_ble_eq_true rfl) rfl (z4_init l _) (fun J hJ => ?_)
  have fin : J 14 49 12864 [some (.ref 37), some (.ref 17), some (.ref 30), some (.int (nI 16))] [] (HH x0 z (gk 16) 16 []) := by
    refine ri_go hJ [] 30 14 rfl ?_
    exact ⟨fun _ => ⟨rfl, rfl⟩, fun c => absurd (by decide) c⟩
  have step : ∀ k, k < 16 → J 14 (1 + 3 * (k + 1)) (16 + 803 * (k + 1)) [some (.ref 37), some (.ref 17), some (.ref 30), some (.int (nI (k + 1)))] [] (HH x0 z (gk (k + 1)) (k + 1) []) → J 14 (1 + 3 * k) (16 + 803 * k) [some (.ref 37), some (.ref 17), some (.ref 30), some (.int (nI k))] [] (HH x0 z (gk k) k []) := by
    intro k hk hn
    rw [← gk_up k] at hn
    have sp : k = 0 ∨ k = 1 ∨ k = 2 ∨ k = 3 ∨ k = 4 ∨ k = 5 ∨ k = 6 ∨ k = 7 ∨ k = 8 ∨ k = 9 ∨ k = 10 ∨ k = 11 ∨ k = 12 ∨ k = 13 ∨ k = 14 ∨ k = 15 := by omega
    rcases sp with rfl | rfl | rfl | rfl | rfl | rfl | rfl | rfl | rfl | rfl | rfl | rfl | rfl | rfl | rfl | rfl
    · refine ri_go hJ [14] 30 14 rfl ?_
      refine ⟨fun c => absurd c (by decide), fun _ => ⟨_, e5_init l (HH x0 z (gk 0) 0 []), ?_⟩⟩
      rintro r h' ⟨rfl, rfl⟩
      exact ⟨vp_in_nI (by decide) (by decide), hn⟩
    · refine ri_go hJ [14] 30 14 rfl ?_
      refine ⟨fun c => absurd c (by decide), fun _ => ⟨_, e5_init l (HH x0 z (gk 1) 1 []), ?_⟩⟩
      rintro r h' ⟨rfl, rfl⟩
      exact ⟨vp_in_nI (by decide) (by decide), hn⟩
    · refine ri_go hJ [14] 30 14 rfl ?_
      refine ⟨fun c => absurd c (by decide), fun _ => ⟨_, e5_init l (HH x0 z (gk 2) 2 []), ?_⟩⟩
      rintro r h' ⟨rfl, rfl⟩
      exact ⟨vp_in_nI (by decide) (by decide), hn⟩
    · refine ri_go hJ [14] 30 14 rfl ?_
      refine ⟨fun c => absurd c (by decide), fun _ => ⟨_, e5_init l (HH x0 z (gk 3) 3 []), ?_⟩⟩
      rintro r h' ⟨rfl, rfl⟩
      exact ⟨vp_in_nI (by decide) (by decide), hn⟩
    · refine ri_go hJ [14] 30 14 rfl ?_
      refine ⟨fun c => absurd c (by decide), fun _ => ⟨_, e5_init l (HH x0 z (gk 4) 4 []), ?_⟩⟩
      rintro r h' ⟨rfl, rfl⟩
      exact ⟨vp_in_nI (by decide) (by decide), hn⟩
    · refine ri_go hJ [14] 30 14 rfl ?_
      refine ⟨fun c => absurd c (by decide), fun _ => ⟨_, e5_init l (HH x0 z (gk 5) 5 []), ?_⟩⟩
      rintro r h' ⟨rfl, rfl⟩
      exact ⟨vp_in_nI (by decide) (by decide), hn⟩
    · refine ri_go hJ [14] 30 14 rfl ?_
      refine ⟨fun c => absurd c (by decide), fun _ => ⟨_, e5_init l (HH x0 z (gk 6) 6 []), ?_⟩⟩
      rintro r h' ⟨rfl, rfl⟩
      exact ⟨vp_in_nI (by decide) (by decide), hn⟩
    · refine ri_go hJ [14] 30 14 rfl ?_
      refine ⟨fun c => absurd c (by decide), fun _ => ⟨_, e5_init l (HH x0 z (gk 7) 7 []), ?_⟩⟩
      rintro r h' ⟨rfl, rfl⟩
      exact ⟨vp_in_nI (by decide) (by decide), hn⟩
    · refine ri_go hJ [14] 30 14 rfl ?_
      refine ⟨fun c => absurd c (by decide), fun _ => ⟨_, e5_init l (HH x0 z (gk 8) 8 []), ?_⟩⟩
      rintro r h' ⟨rfl, rfl⟩
      exact ⟨vp_in_nI (by decide) (by decide), hn⟩
    · refine ri_go hJ [14] 30 14 rfl ?_
      refine ⟨fun c => absurd c (by decide), fun _ => ⟨_, e5_init l (HH x0 z (gk 9) 9 []), ?_⟩⟩
      rintro r h' ⟨rfl, rfl⟩
      exact ⟨vp_in_nI (by decide) (by decide), hn⟩
    · refine ri_go hJ [14] 30 14 rfl ?_
      refine ⟨fun c => absurd c (by decide), fun _ => ⟨_, e5_init l (HH x0 z (gk 10) 10 []), ?_⟩⟩
      rintro r h' ⟨rfl, rfl⟩
      exact ⟨vp_in_nI (by decide) (by decide), hn⟩
    · refine ri_go hJ [14] 30 14 rfl ?_
      refine ⟨fun c => absurd c (by decide), fun _ => ⟨_, e5_init l (HH x0 z (gk 11) 11 []), ?_⟩⟩
      rintro r h' ⟨rfl, rfl⟩
      exact ⟨vp_in_nI (by decide) (by decide), hn⟩
    · refine ri_go hJ [14] 30 14 rfl ?_
      refine ⟨fun c => absurd c (by decide), fun _ => ⟨_, e5_init l (HH x0 z (gk 12) 12 []), ?_⟩⟩
      rintro r h' ⟨rfl, rfl⟩
      exact ⟨vp_in_nI (by decide) (by decide), hn⟩
    · refine ri_go hJ [14] 30 14 rfl ?_
      refine ⟨fun c => absurd c (by decide), fun _ => ⟨_, e5_init l (HH x0 z (gk 13) 13 []), ?_⟩⟩
      rintro r h' ⟨rfl, rfl⟩
      exact ⟨vp_in_nI (by decide) (by decide), hn⟩
    · refine ri_go hJ [14] 30 14 rfl ?_
      refine ⟨fun c => absurd c (by decide), fun _ => ⟨_, e5_init l (HH x0 z (gk 14) 14 []), ?_⟩⟩
      rintro r h' ⟨rfl, rfl⟩
      exact ⟨vp_in_nI (by decide) (by decide), hn⟩
    · refine ri_go hJ [14] 30 14 rfl ?_
      refine ⟨fun c => absurd c (by decide), fun _ => ⟨_, e5_init l (HH x0 z (gk 15) 15 []), ?_⟩⟩
      rintro r h' ⟨rfl, rfl⟩
      exact ⟨vp_in_nI (by decide) (by decide), hn⟩
  refine ri_run_ok hJ [14] 30 0 0 0 _ _ _ ?_
  refine ⟨by decide, ?_⟩
  have g0 : (fun _ => none : Nat → Option Nat) = gk 0 := by
    funext i
    unfold gk
    rw [show Nat.blt i 0 = false from rfl]; rfl
  have := (step 0 (by decide) (step 1 (by decide) (step 2 (by decide) (step 3 (by decide) (step 4 (by decide) (step 5 (by decide) (step 6 (by decide) (step 7 (by decide) (step 8 (by decide) (step 9 (by decide) (step 10 (by decide) (step 11 (by decide) (step 12 (by decide) (step 13 (by decide) (step 14 (by decide) (step 15 (by decide) fin))))))))))))))))
  rw [← g0] at this
  exact this
theorem e6_init (l : Launch) (x0 : ri_C) (z : st_T) : ri_Ev l y6_init w6_init r6_init 3 803 [.ref 87, .ref 17, .ref 37, .ref 30, .ref 34] (HH x0 z (gk 16) 16 [.inr (6, [.null, .null, .null, .null, .null])]) (ri_vo (HH x0 z (gk 16) 16 (.inr (6, [.ref 17, .ref 37, .ref 30, .ref 34, .ref 88]) :: ly 72))) := by
  refine ri_ev (t6_init l _) rfl rfl rfl (Nat.le_of_ble_eq_true rfl) rfl (z6_init l _) (fun J hJ => ?_)
  refine ri_run_ok hJ [] 90 0 0 0 _ _ _ ?_
  refine ⟨_, e5_init l (HH x0 z (gk 16) 16 [.inr (6, [.null, .null, .null, .null, .null])]), ?_⟩
  rintro r h' ⟨rfl, rfl⟩
  exact ⟨rfl, rfl⟩
theorem e7_init (l : Launch) (x0 : ri_C) (z : st_T) : ri_Ev l y7_init w7_init r7_init 0 0 [.ref 92, .ref 17, .ref 25] (HH x0 z (gk 16) 16 (.inr (6, [.ref 17, .ref 37, .ref 30, .ref 34, .ref 88]) :: ly 72 ++ [.inr (8, [.null, .null, .null, .null, .null, .null, .null, .null, .int 0, .null, .null, .null, .null, .int 0, .int 0]), .inr (7, [.null, .null])])) (ri_vo (HH x0 z (gk 16) 16 (.inr (6, [.ref 17, .ref 37, .ref 30, .ref 34, .ref 88]) :: ly 72 ++ [.inr (8, [.null, .null, .null, .null, .null, .null, .null, .null, .int 0, .null, .null, .null, .null, .int 0, .int 0]), .inr (7, [.ref 17, .ref 25])]))) := by
  refine ri_ev (t7_init l _) rfl rfl rfl (Nat.le_of_ble_eq_true rfl) rfl (z7_init l _) (fun J hJ => ?_)
  refine ri_run_ok hJ [] 90 0 0 0 _ _ _ ?_
  exact ⟨rfl, rfl⟩
theorem lk_eq : (fun j => bif Nat.blt j 16 then some (94 + j) else none : Nat → Option Nat) = (fun j => bif Nat.blt j 16 then some (94 + 1 * j) else none) := by
  funext j
  rw [Nat.one_mul]
theorem go_mul {tab : List ri_S} {J : ri_K} (hJ : ri_clo J tab) {rest : List ri_S} {U V : Nat} {L : ri_L} {pc f ci RC RS q0 A B : Nat} {X t : List ri_C} {fs : List Value} (hd : tab.drop pc = i_al (pc + 1) 0 :: i_con (pc + 2) (nI A) :: i_con (pc + 3) (nI B) :: i_mul2 (pc + 4) 3 RC RS :: i_put (pc + 5) ci f ri_isR :: rest) (hX : q0 = 16 + X.length) (hA : A < 2 ^ 27) (hB : B < 2 ^ 27) (hU : (Nat.ble (U + (1 + A)) RC && Nat.ble (V + (A + A * B)) RS) = true) (hf : Nat.blt f fs.length = true) (k : J (pc + 5) (U + 1 + A) (V + A + A * B) (some (.ref q0) :: L) [] (X ++ .inr (ci, fs.set f (.ref (q0 + 1 + t.length))) :: (t ++ .inl (3, A, .inr (fun j => bif Nat.blt j A then some (q0 + 1 + t.length + 1 + j) else none)) :: List.replicate A (.inl (0, B, .inl (fun _ => 0)))))) : J pc U V (some (.ref q0) :: L) [] (X ++ .inr (ci, fs) :: t) := by
  obtain ⟨e0, hd1⟩ := dr_at hd
  obtain ⟨e1, hd2⟩ := dr_at hd1
  obtain ⟨e2, hd3⟩ := dr_at hd2
  obtain ⟨e3, hd4⟩ := dr_at hd3
  obtain ⟨e4, hd5⟩ := dr_at hd4
  refine ri_go hJ [] 0 pc e0 ?_
  refine ri_go hJ [] 0 (pc + 1) e1 ?_
  refine ri_go hJ [] 0 (pc + 1 + 1) e2 ?_
  refine ri_go hJ [] 0 (pc + 1 + 1 + 1) e3 ?_
  have hl : 16 + (X ++ .inr (ci, fs) :: t).length = q0 + 1 + t.length := by rw [List.length_append, List.length_cons, hX]; omega
  have a1 : (nI A).toNatClampNeg = A := nI_clamp (by omega)
  have a2 : (nI B).toNatClampNeg = B := nI_clamp (by omega)
  have nn : ∀ x : Nat, x < 2 ^ 27 → ¬ nI x < 0 := fun x hx c => by
    rw [i_ltI, nI_toInt (by omega)] at c
    have c : (x : Int) < 0 := c
    omega
  unfold i_mul2
  refine ⟨nn A hA, nn B hB, ?_⟩
  rw [a1, a2, hl, show Nat.ble (A * 4) 536870912 = true from Nat.ble_eq_true_of_le (by omega), show Nat.ble (B * 4) 536870912 = true from Nat.ble_eq_true_of_le (by omega), hU]
  show J (pc + 4) (U + 1 + A) (V + A + A * B) _ _ _
  rw [List.append_assoc]
  exact go_put hJ e4 hX rfl hf k
theorem go_ref {tab : List ri_S} {J : ri_K} (hJ : ri_clo J tab) {rest : List ri_S} {U V : Nat} {L : ri_L} {pc f ci q0 a v : Nat} {X t : List ri_C} {fs : List Value} (hd : tab.drop pc = i_al (pc + 1) 0 :: i_al (pc + 2) a :: i_put (pc + 3) ci f ri_isR :: rest) (hX : q0 = 16 + X.length) (ha : (some (Value.ref q0) :: L)[a]? = some (some (.ref v))) (hf : Nat.blt f fs.length = true) (k : J (pc + 3) U V (some (.ref q0) :: L) [] (X ++ .inr (ci, fs.set f (.ref v)) :: t)) : J pc U V (some (.ref q0) :: L) [] (X ++ .inr (ci, fs) :: t) := by
  obtain ⟨e0, hd1⟩ := dr_at hd
  obtain ⟨e1, hd2⟩ := dr_at hd1
  obtain ⟨e2, hd3⟩ := dr_at hd2
  refine ri_go hJ [] 0 pc e0 ?_
  refine ri_go hJ [] 0 (pc + 1) e1 ?_
  unfold i_al
  rw [ha]
  exact go_put hJ e2 hX rfl hf k
theorem e8_init (l : Launch) (X : List ri_C) (hX : 91 = 16 + X.length) : ri_Ev l y8_init w8_init r8_init 24 29388 [.ref 91, .ref 17, .ref 37, .ref 34, .ref 92] (X ++ [.inr (8, [.null, .null, .null, .null, .null, .null, .null, .null, .int 0, .null, .null, .null, .null, .int 0, .int 0]), .inr (7, [.ref 17, .ref 25])]) (ri_vo (X ++ [.inr (8, [.ref 17, .ref 37, .ref 34, .ref 92, .ref 93, .ref 110, .ref 111, .ref 112, .int 0, .ref 113, .ref 114, .ref 115, .ref 116, .int 0, .int 0]), .inr (7, [.ref 17, .ref 25]), .inl (3, 16, .inr (fun j => bif Nat.blt j 16 then some (94 + 1 * j) else none)), .inl (0, 1600, .inl (fun _ => 0)), .inl (0, 1600, .inl (fun _ => 0)), .inl (0, 1600, .inl (fun _ => 0)), .inl (0, 1600, .inl (fun _ => 0)), .inl (0, 1600, .inl (fun _ => 0)), .inl (0, 1600, .inl (fun _ => 0)), .inl (0, 1600, .inl (fun _ => 0)), .inl (0, 1600, .inl (fun _ => 0)), .inl (0, 1600, .inl (fun _ => 0)), .inl (0, 1600, .inl (fun _ => 0)), .inl (0, 1600, .inl (fun _ => 0)), .inl (0, 1600, .inl (fun _ => 0)), .inl (0, 1600, .inl (fun _ => 0)), .inl (0, 1600, .inl (fun _ => 0)), .inl (0, 1600, .inl (fun _ => 0)), .inl (0, 1600, .inl (fun _ => 0)), .inl (0, 1600, .inl (fun _ => 0)), .inl (0, 1600, .inl (fun _ => 0)), .inl (0, 400, .inl (fun _ => 0)), .inl (0, 100, .inl (fun _ => 0)), .inl (0, 4, .inl (fun _ => 0)), .inl (0, 4, .inl (fun _ => 0)), .inl (0, 64, .inl (fun _ => 0))])) := by
  rw [← lk_eq]
  refine ri_ev (t8_init l _) rfl rfl rfl (Nat.le_of_ble_eq_true rfl) rfl (z8_init l _) (fun J hJ => ?_)
  refine ri_run_ok hJ [2] 10 0 0 0 _ _ _ ?_
  refine go_mul hJ (pc := 2) (f := 4) (A := 16) (B := 1600) rfl hX (by decide) (by decide) rfl rfl ?_
  refine go_arr hJ (pc := 7) (x := 1600) (kd := 0) (f := 5) (vs := []) rfl hX (by decide) rfl (by decide) rfl ?_
  refine go_arr hJ (pc := 11) (x := 1600) (kd := 0) (f := 6) (vs := []) rfl hX (by decide) rfl (by decide) rfl ?_
  refine go_arr hJ (pc := 15) (x := 400) (kd := 0) (f := 7) (vs := []) rfl hX (by decide) rfl (by decide) rfl ?_
  refine go_arr hJ (pc := 19) (x := 100) (kd := 0) (f := 9) (vs := []) rfl hX (by decide) rfl (by decide) rfl ?_
  refine go_arr hJ (pc := 23) (x := 4) (kd := 0) (f := 10) (vs := []) rfl hX (by decide) rfl (by decide) rfl ?_
  refine go_arr hJ (pc := 27) (x := 4) (kd := 0) (f := 11) (vs := []) rfl hX (by decide) rfl (by decide) rfl ?_
  refine go_arr hJ (pc := 31) (x := 64) (kd := 0) (f := 12) (vs := []) rfl hX (by decide) rfl (by decide) rfl ?_
  refine go_ref hJ (pc := 35) (f := 0) (a := 1) (v := 17) rfl hX rfl rfl ?_
  refine go_ref hJ (pc := 38) (f := 1) (a := 2) (v := 37) rfl hX rfl rfl ?_
  refine go_ref hJ (pc := 41) (f := 2) (a := 3) (v := 34) rfl hX rfl rfl ?_
  refine go_ref hJ (pc := 44) (f := 3) (a := 4) (v := 92) rfl hX rfl rfl ?_
  refine ri_go hJ [] 5 47 rfl ?_
  exact ⟨rfl, rfl⟩
def zc (z : st_T) : st_T := (fun p => if p < 14 then z.1 p else fun _ => 0, fun p => if p < 14 then z.2.1 p else fun _ => 0, false)
theorem e9_init (l : Launch) : ri_Ev l y9_init w9_init r9_init 100 43636 [.ref 16] [.inr (9, [.null, .null, .null, .null, .null])] (fun a h' => a = none ∧ ∃ z, h' = (st_h z).take 101 ∧ CI z T0 Q0) := by
  refine ri_ev (t9_init l _) rfl rfl rfl (Nat.le_of_ble_eq_true rfl) rfl (z9_init l _) (fun J hJ => ?_)
  refine ri_run_ok hJ [] 200 0 0 0 _ _ _ ?_
  refine ⟨_, e0_init l (.inr (9, [.null, .null, .null, .null, .null])), ?_⟩
  rintro r h' ⟨rfl, z1, rfl, hS⟩
  refine ⟨_, e1_init l (.inr (9, [.ref 17, .null, .null, .null, .null])) z1, ?_⟩
  rintro r h' ⟨rfl, z, rfl, hR, hm⟩
  have hS : RS z T0 := by
    obtain ⟨a1, a2, a3, a4, a5, a6⟩ := hS
    refine ⟨?_, ?_, ?_, ?_, ?_, ?_⟩
    · rw [(hm 2 (by decide)).2]; exact a1
    · rw [(hm 3 (by decide)).2, (hm 4 (by decide)).2, (hm 5 (by decide)).2]; exact a2
    · rw [(hm 6 (by decide)).2]; exact a3
    · rw [(hm 7 (by decide)).2, (hm 8 (by decide)).2]; exact a4
    · rw [(hm 1 (by decide)).1]; exact a5
    · rw [(hm 1 (by decide)).1]; exact a6
  refine ⟨_, e2_init l (.inr (9, [.ref 17, .ref 25, .null, .null, .null])) z, ?_⟩
  rintro r h' ⟨rfl, rfl⟩
  refine ⟨_, e3_init l (.inr (9, [.ref 17, .ref 25, .null, .null, .null])) z, ?_⟩
  rintro r h' ⟨rfl, rfl⟩
  refine ⟨_, e4_init l (.inr (9, [.ref 17, .ref 25, .null, .null, .null])) z, ?_⟩
  rintro r h' ⟨rfl, rfl⟩
  refine ⟨_, e6_init l (.inr (9, [.ref 17, .ref 25, .ref 37, .null, .null])) z, ?_⟩
  rintro r h' ⟨rfl, rfl⟩
  refine ⟨_, e7_init l (.inr (9, [.ref 17, .ref 25, .ref 37, .ref 87, .null])) z, ?_⟩
  rintro r h' ⟨rfl, rfl⟩
  refine ⟨_, e8_init l (HH (.inr (9, [.ref 17, .ref 25, .ref 37, .ref 87, .null])) z (gk 16) 16 (.inr (6, [.ref 17, .ref 37, .ref 30, .ref 34, .ref 88]) :: ly 72)) rfl, ?_⟩
  rintro r h' ⟨rfl, rfl⟩
  refine ⟨rfl, zc z, rfl, TW_T0, QW_0 T0, hS, hR, Or.inl rfl, rfl, fun h => absurd rfl h, fun k a h => by cases h⟩
