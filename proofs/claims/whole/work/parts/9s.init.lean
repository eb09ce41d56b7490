/-! blocks of constructors; the grammar; the constructors of Score and Harmony -/
def u0 (f : Nat → Int32) : List Int32 → Nat → (Nat → Int32)
  | [], _ => f
  | x :: r, n => u0 (upd f n x) r (n + 1)
theorem go_put {tab : List ri_S} {J : ri_K} (hJ : ri_clo J tab) {pc n ci f : Nat} {ok : Value → Bool} (hf : tab[pc]? = some (i_put n ci f ok)) {U V : Nat} {L : ri_L} {r : List Value} {v : Value} {q : Nat} {h t : List ri_C} {fs : List Value} (hq : q = 16 + h.length) (hok : ok v = true) (hl : Nat.blt f fs.length = true) (k : J n U V L r (h ++ .inr (ci, fs.set f v) :: t)) : J pc U V L (v :: .ref q :: r) (h ++ .inr (ci, fs) :: t) := by
  subst hq
  refine ri_go hJ [] 0 pc hf ?_
  have hb : Nat.ble 16 (16 + h.length) = true := Nat.ble_eq_true_of_le (Nat.le_add_right _ _)
  have e : ri_at (h ++ .inr (ci, fs) :: t) (16 + h.length) = some (.inr (ci, fs)) := by
    unfold ri_at
    rw [hb]
    show (h ++ _)[16 + h.length - 16]? = _
    rw [Nat.add_sub_cancel_left, List.getElem?_append_right (Nat.le_refl _), Nat.sub_self]; rfl
  unfold i_put
  simp only [e]
  rw [hok, hb, Nat.beq_refl, hl]
  show J n U V L r ((h ++ _).set (16 + h.length - 16) _)
  rw [Nat.add_sub_cancel_left, List.set_append_right _ _ (Nat.le_refl _), Nat.sub_self]
  exact k
theorem ap_at {X t : List ri_C} {q j : Nat} (hq : q = 16 + X.length + j) : ri_at (X ++ t) q = t[j]? ∧ Nat.ble 16 q = true ∧ ∀ c, (X ++ t).set (q - 16) c = X ++ t.set j c := by
  subst hq
  have hb : Nat.ble 16 (16 + X.length + j) = true := Nat.ble_eq_true_of_le (by omega)
  have es : 16 + X.length + j - 16 = X.length + j := by omega
  refine ⟨?_, hb, fun c => ?_⟩
  · unfold ri_at
    rw [hb]
    show (X ++ t)[16 + X.length + j - 16]? = _
    rw [es, List.getElem?_append_right (by omega), show X.length + j - X.length = j by omega]
  · rw [es, List.set_append_right _ _ (by omega), show X.length + j - X.length = j by omega]
def ini : Nat → Nat → List Int32 → List ri_S
  | _, _, [] => []
  | pc, i, v :: r => i_dup (pc + 1) :: i_con (pc + 2) (nI i) :: i_con (pc + 3) v :: i_ast (pc + 4) 0 (fun x => x) :: ini (pc + 4) (i + 1) r
theorem dr_at {tab t : List ri_S} {pc : Nat} {f : ri_S} (h : tab.drop pc = f :: t) : tab[pc]? = some f ∧ tab.drop (pc + 1) = t := by
  refine ⟨?_, ?_⟩
  · have := List.getElem?_drop (xs := tab) (i := pc) (j := 0)
    rw [h] at this
    exact this.symm
  · rw [← List.drop_drop, h]; rfl
theorem go_ini {tab : List ri_S} {J : ri_K} (hJ : ri_clo J tab) {rest : List ri_S} {U V : Nat} {L : ri_L} {r : List Value} {q N : Nat} {h : List ri_C} (hq : q = 16 + h.length) (hN : N < 2 ^ 31) : ∀ (vs : List Int32) (pc i : Nat) (g : Nat → Int32), tab.drop pc = ini pc i vs ++ rest → i + vs.length ≤ N → J (pc + 4 * vs.length) U V L (.ref q :: r) (h ++ [.inl (0, N, .inl (u0 g vs i))]) → J pc U V L (.ref q :: r) (h ++ [.inl (0, N, .inl g)]) := by
  intro vs
  induction vs with
  | nil => intro pc i g _ _ k; exact k
  | cons v vs ih =>
    intro pc i g hd hl k
    obtain ⟨e0, hd⟩ := dr_at hd
    obtain ⟨e1, hd⟩ := dr_at hd
    obtain ⟨e2, hd⟩ := dr_at hd
    obtain ⟨e3, hd⟩ := dr_at hd
    rw [List.length_cons] at hl k
    refine ri_go hJ [] 0 pc e0 ?_
    refine ri_go hJ [] 0 (pc + 1) e1 ?_
    refine ri_go hJ [] 0 (pc + 1 + 1) e2 ?_
    refine ri_go hJ [] 0 (pc + 1 + 1 + 1) e3 ?_
    obtain ⟨a1, a2, a3⟩ := ap_at (X := h) (t := [.inl (0, N, .inl g)]) (q := q) (j := 0) (by omega)
    unfold i_ast
    have a1 : ri_at (h ++ [.inl (0, N, .inl g)]) q = some (.inl (0, N, .inl g)) := a1
    simp only [a1]
    refine ⟨vp_in_nI (by omega) hN, ?_⟩
    rw [a2]
    show J (pc + 4) U V L (.ref q :: r) _
    rw [a3, nI_clamp (by omega)]
    refine ih (pc + 4) (i + 1) (upd g i v) hd (by omega) ?_
    rw [show pc + 4 + 4 * vs.length = pc + 4 * (vs.length + 1) by omega]
    exact k
theorem go_arr {tab : List ri_S} {J : ri_K} (hJ : ri_clo J tab) {rest : List ri_S} {U V : Nat} {L : ri_L} {pc x kd f ci RC RS q0 : Nat} {vs : List Int32} {X t : List ri_C} {fs : List Value} (hd : tab.drop pc = i_al (pc + 1) 0 :: i_con (pc + 2) (nI x) :: i_nwa (pc + 3) kd RC RS :: (ini (pc + 3) 0 vs ++ (i_put (pc + 4 * vs.length + 4) ci f ri_isR :: rest))) (hX : q0 = 16 + X.length) (hx : x < 2 ^ 27) (hU : (Nat.ble (U + 1) RC && Nat.ble (V + x) RS) = true) (hv : vs.length = 0 ∨ (kd = 0 ∧ vs.length ≤ x)) (hf : Nat.blt f fs.length = true) (k : J (pc + 4 * vs.length + 4) (U + 1) (V + x) (some (.ref q0) :: L) [] (X ++ .inr (ci, fs.set f (.ref (q0 + 1 + t.length))) :: (t ++ [.inl (kd, x, .inl (u0 (fun _ => 0) vs 0))]))) : J pc U V (some (.ref q0) :: L) [] (X ++ .inr (ci, fs) :: t) := by
  obtain ⟨e0, hd1⟩ := dr_at hd
  obtain ⟨e1, hd2⟩ := dr_at hd1
  obtain ⟨e2, hd3⟩ := dr_at hd2
  refine ri_go hJ [] 0 pc e0 ?_
  refine ri_go hJ [] 0 (pc + 1) e1 ?_
  refine ri_go hJ [] 0 (pc + 1 + 1) e2 ?_
  unfold i_nwa
  have hc : (nI x).toNatClampNeg = x := nI_clamp (by omega)
  refine ⟨fun c => ?_, ?_⟩
  · rw [i_ltI, nI_toInt (by omega)] at c
    have c : (x : Int) < 0 := c
    omega
  rw [hc, show Nat.ble (x * 4) 536870912 = true from Nat.ble_eq_true_of_le (by omega), hU]
  show J (pc + 3) (U + 1) (V + x) _ _ _
  have hl : 16 + (X ++ .inr (ci, fs) :: t).length = q0 + 1 + t.length := by rw [List.length_append, List.length_cons, hX]; omega
  have fin : J (pc + 3 + 4 * vs.length) (U + 1) (V + x) (some (.ref q0) :: L) (.ref (q0 + 1 + t.length) :: .ref q0 :: []) (X ++ .inr (ci, fs) :: t ++ [.inl (kd, x, .inl (u0 (fun _ => 0) vs 0))]) := by
    have e3 : tab[pc + 3 + 4 * vs.length]? = some (i_put (pc + 4 * vs.length + 4) ci f ri_isR) := by
      have := List.getElem?_drop (xs := tab) (i := pc + 1 + 1 + 1) (j := 4 * vs.length)
      rw [hd3] at this
      rw [show pc + 3 + 4 * vs.length = pc + 1 + 1 + 1 + 4 * vs.length by omega, ← this]
      have il : ∀ (vs : List Int32) (pc i : Nat), (ini pc i vs).length = 4 * vs.length := by
        intro vs
        induction vs with
        | nil => intro pc i; rfl
        | cons v vs ih => intro pc i; show (ini (pc + 4) (i + 1) vs).length + 1 + 1 + 1 + 1 = 4 * (vs.length + 1); rw [ih]; omega
      rw [List.getElem?_append_right (by rw [il]; exact Nat.le_refl _), il, Nat.sub_self]; rfl
    rw [List.append_assoc]
    refine go_put hJ e3 hX rfl hf ?_
    exact k
  rw [hl]
  rcases hv with hv | ⟨hv, hv2⟩
  · have : vs = [] := List.eq_nil_of_length_eq_zero hv
    subst this
    exact fin
  · subst hv
    exact go_ini hJ hl.symm (by omega) vs (pc + 3) 0 (fun _ => 0) hd3 (by omega) fin
theorem go_int {tab : List ri_S} {J : ri_K} (hJ : ri_clo J tab) {rest : List ri_S} {U V : Nat} {L : ri_L} {pc f ci q0 : Nat} {x : Int32} {X t : List ri_C} {fs : List Value} (hd : tab.drop pc = i_al (pc + 1) 0 :: i_con (pc + 2) x :: i_put (pc + 3) ci f ri_isI :: rest) (hX : q0 = 16 + X.length) (hf : Nat.blt f fs.length = true) (k : J (pc + 3) U V (some (.ref q0) :: L) [] (X ++ .inr (ci, fs.set f (.int x)) :: t)) : J pc U V (some (.ref q0) :: L) [] (X ++ .inr (ci, fs) :: t) := by
  obtain ⟨e0, hd⟩ := dr_at hd
  obtain ⟨e1, hd⟩ := dr_at hd
  obtain ⟨e2, hd⟩ := dr_at hd
  refine ri_go hJ [] 0 pc e0 ?_
  refine ri_go hJ [] 0 (pc + 1) e1 ?_
  exact go_put hJ e2 hX rfl hf k
def FNt (i : Nat) : Int32 := st_FUNCTIONS.getD i 0
def gSI (x y : Int32) : Int32 := if FNt (nt y) = 0 then (if ¬ x = 3 then 4 else (if ¬ y = 0 then 4 else 2)) else (if FNt (nt y) = 1 then 2 else (if FNt (nt y) = 2 then 0 else 1))
theorem e1_fromSubdominant (l : Launch) (h : List ri_C) (x y : Int32) (hy : vp_in y 13) : ri_Ev l y1_fromSubdominant w1_fromSubdominant r1_fromSubdominant 0 0 [.int x, .int y] h (ri_is (gSI x y) h) := by
  refine ri_ev (t1_fromSubdominant l _) rfl rfl rfl (Nat.le_of_ble_eq_true rfl) rfl (z1_fromSubdominant l _) (fun J hJ => ?_)
  refine ri_run_ok hJ [] 200 0 0 0 _ _ _ ?_
  refine ⟨hy, ?_⟩
  refine ⟨fun c0 => ?_, fun c0 => ?_⟩
  · replace c0 : FNt (nt y) = 0 := c0
    refine ⟨fun c1 => ?_, fun c1 => ?_⟩
    · replace c1 : ¬ x = 3 := c1
      exact ⟨by unfold gSI; rw [if_pos c0, if_pos c1], rfl⟩
    · replace c1 : ¬ (¬ x = 3) := c1
      refine ⟨fun c2 => ?_, fun c2 => ?_⟩
      · replace c2 : ¬ y = 0 := c2
        exact ⟨by unfold gSI; rw [if_pos c0, if_neg c1, if_pos c2], rfl⟩
      · replace c2 : ¬ (¬ y = 0) := c2
        exact ⟨by unfold gSI; rw [if_pos c0, if_neg c1, if_neg c2], rfl⟩
  · replace c0 : ¬ (FNt (nt y) = 0) := c0
    refine ⟨fun c3 => ?_, fun c3 => ?_⟩
    · replace c3 : FNt (nt y) = 1 := c3
      exact ⟨by unfold gSI; rw [if_neg c0, if_pos c3], rfl⟩
    · replace c3 : ¬ (FNt (nt y) = 1) := c3
      refine ⟨fun c4 => ?_, fun c4 => ?_⟩
      · replace c4 : FNt (nt y) = 2 := c4
        exact ⟨by unfold gSI; rw [if_neg c0, if_neg c3, if_pos c4], rfl⟩
      · replace c4 : ¬ (FNt (nt y) = 2) := c4
        exact ⟨by unfold gSI; rw [if_neg c0, if_neg c3, if_neg c4], rfl⟩
def gDI (x y : Int32) : Int32 := if y = 0 then 0 else (if y = 4 then (if ¬ x = 7 then 1 else 3) else (if y = 5 then 2 else (if y = 6 then (if ¬ x = 7 then 1 else 3) else (if y = 7 then 1 else (if y = 12 then 2 else (-1))))))
theorem e1_fromDominant (l : Launch) (h : List ri_C) (x y : Int32) : ri_Ev l y1_fromDominant w1_fromDominant r1_fromDominant 0 0 [.int x, .int y] h (ri_is (gDI x y) h) := by
  refine ri_ev (t1_fromDominant l _) rfl rfl rfl (Nat.le_of_ble_eq_true rfl) rfl (z1_fromDominant l _) (fun J hJ => ?_)
  refine ri_run_ok hJ [] 200 0 0 0 _ _ _ ?_
  refine ⟨fun c0 => ?_, fun c0 => ?_⟩
  · replace c0 : y = 0 := c0
    exact ⟨by unfold gDI; rw [if_pos c0], rfl⟩
  · replace c0 : ¬ (y = 0) := c0
    refine ⟨fun c1 => ?_, fun c1 => ?_⟩
    · replace c1 : y = 4 := c1
      refine ⟨fun c2 => ?_, fun c2 => ?_⟩
      · replace c2 : ¬ x = 7 := c2
        exact ⟨by unfold gDI; rw [if_neg c0, if_pos c1, if_pos c2], rfl⟩
      · replace c2 : ¬ (¬ x = 7) := c2
        exact ⟨by unfold gDI; rw [if_neg c0, if_pos c1, if_neg c2], rfl⟩
    · replace c1 : ¬ (y = 4) := c1
      refine ⟨fun c3 => ?_, fun c3 => ?_⟩
      · replace c3 : y = 5 := c3
        exact ⟨by unfold gDI; rw [if_neg c0, if_neg c1, if_pos c3], rfl⟩
      · replace c3 : ¬ (y = 5) := c3
        refine ⟨fun c4 => ?_, fun c4 => ?_⟩
        · replace c4 : y = 6 := c4
          refine ⟨fun c5 => ?_, fun c5 => ?_⟩
          · replace c5 : ¬ x = 7 := c5
            exact ⟨by unfold gDI; rw [if_neg c0, if_neg c1, if_neg c3, if_pos c4, if_pos c5], rfl⟩
          · replace c5 : ¬ (¬ x = 7) := c5
            exact ⟨by unfold gDI; rw [if_neg c0, if_neg c1, if_neg c3, if_pos c4, if_neg c5], rfl⟩
        · replace c4 : ¬ (y = 6) := c4
          refine ⟨fun c6 => ?_, fun c6 => ?_⟩
          · replace c6 : y = 7 := c6
            exact ⟨by unfold gDI; rw [if_neg c0, if_neg c1, if_neg c3, if_neg c4, if_pos c6], rfl⟩
          · replace c6 : ¬ (y = 7) := c6
            refine ⟨fun c7 => ?_, fun c7 => ?_⟩
            · replace c7 : y = 12 := c7
              exact ⟨by unfold gDI; rw [if_neg c0, if_neg c1, if_neg c3, if_neg c4, if_neg c6, if_pos c7], rfl⟩
            · replace c7 : ¬ (y = 12) := c7
              exact ⟨by unfold gDI; rw [if_neg c0, if_neg c1, if_neg c3, if_neg c4, if_neg c6, if_neg c7], rfl⟩
def gAI (x y : Int32) : Int32 := if x = 9 then (if ¬ y = 10 then (if y = 4 then 0 else (if ¬ y = 7 then (-1) else 0)) else 1) else (if x = 10 then (if y = 4 then 0 else (if ¬ y = 7 then (-1) else 0)) else (if x = 11 then (if ¬ y = 5 then (-1) else 0) else (if ¬ y = 3 then (-1) else 0)))
theorem e1_fromApplied (l : Launch) (h : List ri_C) (x y : Int32) : ri_Ev l y1_fromApplied w1_fromApplied r1_fromApplied 0 0 [.int x, .int y] h (ri_is (gAI x y) h) := by
  refine ri_ev (t1_fromApplied l _) rfl rfl rfl (Nat.le_of_ble_eq_true rfl) rfl (z1_fromApplied l _) (fun J hJ => ?_)
  refine ri_run_ok hJ [] 200 0 0 0 _ _ _ ?_
  refine ⟨fun c0 => ?_, fun c0 => ?_⟩
  · replace c0 : x = 9 := c0
    refine ⟨fun c1 => ?_, fun c1 => ?_⟩
    · replace c1 : ¬ y = 10 := c1
      refine ⟨fun c2 => ?_, fun c2 => ?_⟩
      · replace c2 : y = 4 := c2
        exact ⟨by unfold gAI; rw [if_pos c0, if_pos c1, if_pos c2], rfl⟩
      · replace c2 : ¬ (y = 4) := c2
        refine ⟨fun c3 => ?_, fun c3 => ?_⟩
        · replace c3 : ¬ y = 7 := c3
          exact ⟨by unfold gAI; rw [if_pos c0, if_pos c1, if_neg c2, if_pos c3], rfl⟩
        · replace c3 : ¬ (¬ y = 7) := c3
          exact ⟨by unfold gAI; rw [if_pos c0, if_pos c1, if_neg c2, if_neg c3], rfl⟩
    · replace c1 : ¬ (¬ y = 10) := c1
      exact ⟨by unfold gAI; rw [if_pos c0, if_neg c1], rfl⟩
  · replace c0 : ¬ (x = 9) := c0
    refine ⟨fun c4 => ?_, fun c4 => ?_⟩
    · replace c4 : x = 10 := c4
      refine ⟨fun c5 => ?_, fun c5 => ?_⟩
      · replace c5 : y = 4 := c5
        exact ⟨by unfold gAI; rw [if_neg c0, if_pos c4, if_pos c5], rfl⟩
      · replace c5 : ¬ (y = 4) := c5
        refine ⟨fun c6 => ?_, fun c6 => ?_⟩
        · replace c6 : ¬ y = 7 := c6
          exact ⟨by unfold gAI; rw [if_neg c0, if_pos c4, if_neg c5, if_pos c6], rfl⟩
        · replace c6 : ¬ (¬ y = 7) := c6
          exact ⟨by unfold gAI; rw [if_neg c0, if_pos c4, if_neg c5, if_neg c6], rfl⟩
    · replace c4 : ¬ (x = 10) := c4
      refine ⟨fun c7 => ?_, fun c7 => ?_⟩
      · replace c7 : x = 11 := c7
        refine ⟨fun c8 => ?_, fun c8 => ?_⟩
        · replace c8 : ¬ y = 5 := c8
          exact ⟨by unfold gAI; rw [if_neg c0, if_neg c4, if_pos c7, if_pos c8], rfl⟩
        · replace c8 : ¬ (¬ y = 5) := c8
          exact ⟨by unfold gAI; rw [if_neg c0, if_neg c4, if_pos c7, if_neg c8], rfl⟩
      · replace c7 : ¬ (x = 11) := c7
        refine ⟨fun c9 => ?_, fun c9 => ?_⟩
        · replace c9 : ¬ y = 3 := c9
          exact ⟨by unfold gAI; rw [if_neg c0, if_neg c4, if_neg c7, if_pos c9], rfl⟩
        · replace c9 : ¬ (¬ y = 3) := c9
          exact ⟨by unfold gAI; rw [if_neg c0, if_neg c4, if_neg c7, if_neg c9], rfl⟩
def gmI (x y : Int32) : Int32 := if ¬ x = y then (if FNt (nt x) = 0 then (if ¬ (FNt (nt y)) = 0 then 0 else 2) else (if FNt (nt x) = 1 then (gSI x y) else (if FNt (nt x) = 2 then (gDI x y) else (gAI x y)))) else 3
theorem e1_grammar (l : Launch) (h : List ri_C) (x y : Int32) (hx : vp_in x 13) (hy : vp_in y 13) : ri_Ev l y1_grammar w1_grammar r1_grammar 0 0 [.int x, .int y] h (ri_is (gmI x y) h) := by
  refine ri_ev (t1_grammar l _) rfl rfl rfl (Nat.le_of_ble_eq_true rfl) rfl (z1_grammar l _) (fun J hJ => ?_)
  refine ri_run_ok hJ [] 200 0 0 0 _ _ _ ?_
  refine ⟨fun c0 => ?_, fun c0 => ?_⟩
  · replace c0 : ¬ x = y := c0
    refine ⟨hx, ?_⟩
    refine ⟨fun c1 => ?_, fun c1 => ?_⟩
    · replace c1 : FNt (nt x) = 0 := c1
      refine ⟨hy, ?_⟩
      refine ⟨fun c2 => ?_, fun c2 => ?_⟩
      · replace c2 : ¬ (FNt (nt y)) = 0 := c2
        exact ⟨by unfold gmI; rw [if_pos c0, if_pos c1, if_pos c2], rfl⟩
      · replace c2 : ¬ (¬ (FNt (nt y)) = 0) := c2
        exact ⟨by unfold gmI; rw [if_pos c0, if_pos c1, if_neg c2], rfl⟩
    · replace c1 : ¬ (FNt (nt x) = 0) := c1
      refine ⟨fun c3 => ?_, fun c3 => ?_⟩
      · replace c3 : FNt (nt x) = 1 := c3
        refine ⟨_, e1_fromSubdominant l _ x y hy, ?_⟩
        rintro r h' ⟨rfl, rfl⟩
        exact ⟨by unfold gmI; rw [if_pos c0, if_neg c1, if_pos c3], rfl⟩
      · replace c3 : ¬ (FNt (nt x) = 1) := c3
        refine ⟨fun c4 => ?_, fun c4 => ?_⟩
        · replace c4 : FNt (nt x) = 2 := c4
          refine ⟨_, e1_fromDominant l _ x y, ?_⟩
          rintro r h' ⟨rfl, rfl⟩
          exact ⟨by unfold gmI; rw [if_pos c0, if_neg c1, if_neg c3, if_pos c4], rfl⟩
        · replace c4 : ¬ (FNt (nt x) = 2) := c4
          refine ⟨_, e1_fromApplied l _ x y, ?_⟩
          rintro r h' ⟨rfl, rfl⟩
          exact ⟨by unfold gmI; rw [if_pos c0, if_neg c1, if_neg c3, if_neg c4], rfl⟩
  · replace c0 : ¬ (¬ x = y) := c0
    exact ⟨by unfold gmI; rw [if_neg c0], rfl⟩
theorem gm_unt : ∀ a, a < 13 → ∀ b, b < 13 → gmI (nI a) (nI b) = nU (unt a b) := by decide +kernel
def T0 : tT := fun a b => if a = 4 then (if b < 8 then 1 else 0) else if a = 5 then [1, 2, 2, 1, 1, 4, 2, 5, 2].getD b 0 else if a = 6 then [60, 53, 48, 40].getD b 0 else if a = 7 then [81, 74, 69, 62].getD b 0 else if a = 8 then (if b = 2 then 4 else 0) else 0
theorem TW_T0 : TW T0 := ⟨by decide, by decide, by decide, fun _ _ => Or.inl rfl, fun _ _ => ⟨Nat.zero_le 13, Nat.zero_le 4, Nat.zero_le 1⟩, by decide, by decide, by decide, fun _ _ _ => ⟨fun _ _ => rfl, rfl, rfl, rfl⟩⟩
def z00 : st_T := (fun p f => if p = 1 then (if f = 0 then 4 else 255) else 0, fun p => if p = 6 then u0 (fun _ => 0) [1, 2, 2, 1, 1, 4, 2, 5, 2] 0 else if p = 7 then u0 (fun _ => 0) [60, 53, 48, 40] 0 else if p = 8 then u0 (fun _ => 0) [81, 74, 69, 62] 0 else fun _ => 0, false)
theorem e0_init (l : Launch) (x0 : ri_C) : ri_Ev l y0_init w0_init r0_init 7 129 [.ref 17] [x0, .inr (0, [.int 0, .int 0, .null, .null, .null, .null, .null, .null, .null])] (ri_hy x0 [] fun z' => RS z' T0) := by
  refine ri_ev (t0_init l _) rfl rfl rfl (Nat.le_of_ble_eq_true rfl) rfl (z0_init l _) (fun J hJ => ?_)
  refine ri_run_ok hJ [2] 10 0 0 0 _ _ _ ?_
  show J 2 0 0 [some (.ref 17)] [] ([x0] ++ [.inr (0, [.int 0, .int 0, .null, .null, .null, .null, .null, .null, .null])])
  refine go_int hJ (pc := 2) (f := 0) (x := 4) rfl rfl rfl ?_
  refine go_int hJ (pc := 5) (f := 1) (x := 255) rfl rfl rfl ?_
  refine go_arr hJ (pc := 8) (x := 64) (kd := 0) (f := 2) (vs := []) rfl rfl (by decide) rfl (by decide) rfl ?_
  refine go_arr hJ (pc := 12) (x := 16) (kd := 0) (f := 3) (vs := []) rfl rfl (by decide) rfl (by decide) rfl ?_
  refine go_arr hJ (pc := 16) (x := 16) (kd := 0) (f := 4) (vs := []) rfl rfl (by decide) rfl (by decide) rfl ?_
  refine go_arr hJ (pc := 20) (x := 16) (kd := 1) (f := 5) (vs := []) rfl rfl (by decide) rfl (by decide) rfl ?_
  refine go_arr hJ (pc := 24) (x := 9) (kd := 0) (f := 6) (vs := [1, 2, 2, 1, 1, 4, 2, 5, 2]) rfl rfl (by decide) rfl (by decide) rfl ?_
  refine go_arr hJ (pc := 64) (x := 4) (kd := 0) (f := 7) (vs := [60, 53, 48, 40]) rfl rfl (by decide) rfl (by decide) rfl ?_
  refine go_arr hJ (pc := 84) (x := 4) (kd := 0) (f := 8) (vs := [81, 74, 69, 62]) rfl rfl (by decide) rfl (by decide) rfl ?_
  refine ri_go hJ [] 20 104 rfl ?_
  refine ⟨_, e0_clearFrom l x0 [] z00 (n := 0) (by decide), ?_⟩
  rintro r h' ⟨rfl, z', rfl, hc, hm⟩
  refine ⟨rfl, z', rfl, ?_⟩
  have f6 := (hm.1 6 (by decide)).2
  have f7 := (hm.1 7 (by decide)).2
  have f8 := (hm.1 8 (by decide)).2
  have f1 := (hm.1 1 (by decide)).1
  refine ⟨fun j hj => ?_, fun i hi => ?_, fun k hk => ?_, fun v hv => ?_, ?_, ?_⟩
  · rw [hc.1 j hj, if_pos ⟨by omega, by omega⟩]; rfl
  · obtain ⟨a, b, c⟩ := hc.2 i hi
    rw [a, b, c, if_pos ⟨by omega, by omega⟩, if_pos ⟨by omega, by omega⟩, if_pos ⟨by omega, by omega⟩]
    exact ⟨rfl, rfl, rfl⟩
  · rw [f6]; revert k hk; decide
  · rw [f7, f8]; revert v hv; decide
  · rw [f1]; rfl
  · rw [f1]; decide
def f00 : Nat → Int32 := fun _ => 0
def zh (z : st_T) (g : Nat → Int32) : st_T := (va_up z.1 9 f00, va_up (va_up (va_up (va_up z.2.1 10 f00) 11 f00) 12 f00) 13 g, z.2.2)
def gI (g : Nat → Int32) (a b : Nat) : Prop := ∀ a' b', a' < 13 → b' < 13 → (a' < a ∨ (a' = a ∧ b' < b)) → g (16 * a' + b') = nU (unt a' b')
theorem e1_init (l : Launch) (x0 : ri_C) (z : st_T) : ri_Ev l y1_init w1_init r1_init 4 380 [.ref 25] (hw x0 z [.inr (1, [.int 0, .int 0, .int 0, .null, .null, .null, .null])]) (ri_hx x0 [] fun z' => RH z' T0 ∧ ∀ p, p < 9 → z'.1 p = z.1 p ∧ z'.2.1 p = z.2.1 p) := by
  refine ri_ev (t1_init l _) rfl rfl rfl (Nat.le_of_ble_eq_true rfl) rfl (z1_init l _) (fun J hJ => ?_)
  have outer : ∀ n a, n + a = 13 → ∀ g, gI g a 0 → ∀ o, J 20 4 380 [some (.ref 25), some (.int (nI a)), o] [] (hv x0 (zh z g) []) := by
    intro n
    induction n with
    | zero =>
      intro a ha g hg o
      have h13 : a = 13 := by omega
      subst h13
      refine ri_go hJ [] 90 20 rfl ?_
      refine ⟨fun _ => ⟨_, e1_tune l x0 [] (zh z g) T0 (by decide) (by decide) (fun a b ha hb => ?_), ?_⟩, fun c => absurd (by decide) c⟩
      · show va_up (va_up (va_up (va_up z.2.1 10 f00) 11 f00) 12 f00) 13 g 13 (16 * a + b) = _
        rw [va_up_self]
        exact hg a b ha hb (Or.inl ha)
      · rintro r h' ⟨rfl, z', rfl, hR, hm⟩
        refine ⟨rfl, z', rfl, hR, fun p hp => ?_⟩
        have q := hm.1 p (by intro e; simp [md4] at e; omega)
        refine ⟨q.1.trans (va_up_ne _ _ (by omega)), q.2.trans ?_⟩
        show va_up (va_up (va_up (va_up z.2.1 10 f00) 11 f00) 12 f00) 13 g p = _
        rw [va_up_ne _ _ (by omega), va_up_ne _ _ (by omega), va_up_ne _ _ (by omega), va_up_ne _ _ (by omega)]
    | succ n ih =>
      intro a ha g hg o
      have e1 := nI_1 a
      have inner : ∀ n' b, n' + b = 13 → ∀ g, gI g a b → J 25 4 380 [some (.ref 25), some (.int (nI a)), some (.int (nI b))] [] (hv x0 (zh z g) []) := by
        intro n'
        induction n' with
        | zero =>
          intro b hb g hg
          have h13 : b = 13 := by omega
          subst h13
          refine ri_go hJ [20] 90 25 rfl ?_
          refine ⟨fun _ => ?_, fun c => absurd (by decide) c⟩
          have := ih (a + 1) (by omega) g (fun a' b' ha' hb' q => hg a' b' ha' hb' (by omega)) (some (.int (nI 13)))
          rw [← e1] at this
          exact this
        | succ n' ihn =>
          intro b hb g hg
          have e2 := nI_1 b
          have ka : vp_in (nI a) 13 := vp_in_nI (by omega) (by decide)
          have kb : vp_in (nI b) 13 := vp_in_nI (by omega) (by decide)
          refine ri_go hJ [25] 90 25 rfl ?_
          refine ⟨fun c => absurd c (nI_ge (a := b) (b := 13) (by omega) (by decide)), fun _ => ⟨_, e1_grammar l _ (nI a) (nI b) ka kb, ?_⟩⟩
          rintro r h' ⟨rfl, rfl⟩
          refine ⟨?_, ?_⟩
          · show vp_in (nI a * 16 + nI b) 256
            rw [ix16]; exact vp_in_nI (by omega) (by decide)
          · have := ihn (b + 1) (by omega) (upd g (nI a * 16 + nI b).toNatClampNeg (gmI (nI a) (nI b))) (fun a' b' ha' hb' q => by
              rw [ix16, nI_clamp (by omega)]
              by_cases e : a' = a ∧ b' = b
              · rw [e.1, e.2, pk_us]; exact gm_unt a (by omega) b (by omega)
              · rw [pk_un (by omega)]; exact hg a' b' ha' hb' (by omega))
            rw [← e2] at this
            exact this
      refine ri_go hJ [25] 90 20 rfl ?_
      exact ⟨fun c => absurd c (nI_ge (a := a) (b := 13) (by omega) (by decide)), fun _ => inner 13 0 rfl g hg⟩
  refine ri_run_ok hJ [20] 90 0 0 0 _ _ _ ?_
  exact ⟨by decide, by decide, by decide, by decide, outer 13 0 rfl f00 (fun a' b' _ _ q => absurd q (by omega)) none⟩
