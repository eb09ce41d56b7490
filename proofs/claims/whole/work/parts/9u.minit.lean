/-! the constructor of the reference -/
def zm (z : st_T) : st_T := (fun p => if p < 101 then z.1 p else if 129 < p then z.1 p else fun f => if f = 7 then 4 else 0, fun p => if p < 101 then z.2.1 p else if 129 < p then z.2.1 p else if p = 102 then u0 (fun _ => 0) [0, 4, 7, (-1), 2, 5, 9, (-1), 4, 7, 11, (-1), 5, 9, 0, (-1), 7, 11, 2, (-1), 9, 0, 4, (-1), 11, 2, 5, (-1), 7, 11, 2, 5, 2, 5, 9, 0, 2, 6, 9, (-1), 2, 6, 9, 0, 4, 8, 11, (-1), 0, 4, 7, 10] 0 else if p = 103 then u0 (fun _ => 0) [0, 3, 7, (-1), 2, 5, 8, (-1), 3, 7, 10, (-1), 5, 8, 0, (-1), 7, 11, 2, (-1), 8, 0, 3, (-1), 11, 2, 5, (-1), 7, 11, 2, 5, 2, 5, 8, 0, 2, 6, 9, (-1), 2, 6, 9, 0, 3, 7, 10, (-1), 0, 4, 7, 10] 0 else if p = 104 then u0 (fun _ => 0) [1, 0, 1, 0, 1, 1, 0, 1, 0, 1, 0, 1] 0 else if p = 105 then u0 (fun _ => 0) [1, 0, 1, 1, 0, 1, 0, 1, 1, 0, 0, 1] 0 else if p = 111 then u0 (fun _ => 0) [1, 2, 2, 1, 1, 4, 2, 5, 2] 0 else if p = 112 then u0 (fun _ => 0) [60, 53, 48, 40] 0 else if p = 113 then u0 (fun _ => 0) [81, 74, 69, 62] 0 else fun _ => 0, z.2.2)
set_option maxRecDepth 20000 in
theorem e10_start (l : Launch) (Po : ri_O) {J : ri_K} (hJ : ri_clo J (t10_init l Po)) (X : List ri_C) (hX : 117 = 16 + X.length) (k : J 700 28 135022 [some (.ref 117), none] [] (X ++ .inr (10, [.int 0, .ref 118, .ref 119, .ref 120, .ref 121, .int 0, .int 0, .int 4, .ref 122, .ref 123, .ref 124, .ref 125, .ref 126, .ref 127, .ref 128, .ref 129, .ref 130, .ref 131, .ref 132, .ref 133, .ref 134, .ref 135, .ref 136, .ref 137, .ref 138, .ref 139, .int 0, .ref 140, .ref 141, .ref 142, .int 0, .ref 143, .int 0, .ref 144, .ref 145, .int 0]) :: [.inl (0, 52, .inl (u0 (fun _ => 0) [0, 4, 7, (-1), 2, 5, 9, (-1), 4, 7, 11, (-1), 5, 9, 0, (-1), 7, 11, 2, (-1), 9, 0, 4, (-1), 11, 2, 5, (-1), 7, 11, 2, 5, 2, 5, 9, 0, 2, 6, 9, (-1), 2, 6, 9, 0, 4, 8, 11, (-1), 0, 4, 7, 10] 0)), .inl (0, 52, .inl (u0 (fun _ => 0) [0, 3, 7, (-1), 2, 5, 8, (-1), 3, 7, 10, (-1), 5, 8, 0, (-1), 7, 11, 2, (-1), 8, 0, 3, (-1), 11, 2, 5, (-1), 7, 11, 2, 5, 2, 5, 8, 0, 2, 6, 9, (-1), 2, 6, 9, 0, 3, 7, 10, (-1), 0, 4, 7, 10] 0)), .inl (0, 12, .inl (u0 (fun _ => 0) [1, 0, 1, 0, 1, 1, 0, 1, 0, 1, 0, 1] 0)), .inl (0, 12, .inl (u0 (fun _ => 0) [1, 0, 1, 1, 0, 1, 0, 1, 1, 0, 0, 1] 0)), .inl (0, 64, .inl (fun _ => 0)), .inl (0, 16, .inl (fun _ => 0)), .inl (0, 16, .inl (fun _ => 0)), .inl (1, 16, .inl (fun _ => 0)), .inl (1, 13, .inl (fun _ => 0)), .inl (0, 9, .inl (u0 (fun _ => 0) [1, 2, 2, 1, 1, 4, 2, 5, 2] 0)), .inl (0, 4, .inl (u0 (fun _ => 0) [60, 53, 48, 40] 0)), .inl (0, 4, .inl (u0 (fun _ => 0) [81, 74, 69, 62] 0)), .inl (0, 25600, .inl (fun _ => 0)), .inl (0, 6400, .inl (fun _ => 0)), .inl (0, 6400, .inl (fun _ => 0)), .inl (0, 16, .inl (fun _ => 0)), .inl (0, 25600, .inl (fun _ => 0)), .inl (0, 25600, .inl (fun _ => 0)), .inl (0, 25600, .inl (fun _ => 0)), .inl (0, 6400, .inl (fun _ => 0)), .inl (1, 6400, .inl (fun _ => 0)), .inl (1, 6400, .inl (fun _ => 0)), .inl (0, 256, .inl (fun _ => 0)), .inl (0, 64, .inl (fun _ => 0)), .inl (0, 4, .inl (fun _ => 0)), .inl (0, 4, .inl (fun _ => 0)), .inl (0, 4, .inl (fun _ => 0)), .inl (0, 4, .inl (fun _ => 0))])) : J 0 0 0 [some (.ref 117), none] [] (X ++ [.inr (10, [.int 0, .null, .null, .null, .null, .int 0, .int 0, .int 0, .null, .null, .null, .null, .null, .null, .null, .null, .null, .null, .null, .null, .null, .null, .null, .null, .null, .null, .int 0, .null, .null, .null, .int 0, .null, .int 0, .null, .null, .int 0])]) := by
  refine ri_go hJ [2] 10 0 rfl ?_
  refine go_arr hJ (pc := 2) (x := 52) (kd := 0) (f := 1) (vs := [0, 4, 7, (-1), 2, 5, 9, (-1), 4, 7, 11, (-1), 5, 9, 0, (-1), 7, 11, 2, (-1), 9, 0, 4, (-1), 11, 2, 5, (-1), 7, 11, 2, 5, 2, 5, 9, 0, 2, 6, 9, (-1), 2, 6, 9, 0, 4, 8, 11, (-1), 0, 4, 7, 10]) rfl hX (by decide) rfl (by decide) rfl ?_
  refine go_arr hJ (pc := 214) (x := 52) (kd := 0) (f := 2) (vs := [0, 3, 7, (-1), 2, 5, 8, (-1), 3, 7, 10, (-1), 5, 8, 0, (-1), 7, 11, 2, (-1), 8, 0, 3, (-1), 11, 2, 5, (-1), 7, 11, 2, 5, 2, 5, 8, 0, 2, 6, 9, (-1), 2, 6, 9, 0, 3, 7, 10, (-1), 0, 4, 7, 10]) rfl hX (by decide) rfl (by decide) rfl ?_
  refine go_arr hJ (pc := 426) (x := 12) (kd := 0) (f := 3) (vs := [1, 0, 1, 0, 1, 1, 0, 1, 0, 1, 0, 1]) rfl hX (by decide) rfl (by decide) rfl ?_
  refine go_arr hJ (pc := 478) (x := 12) (kd := 0) (f := 4) (vs := [1, 0, 1, 1, 0, 1, 0, 1, 1, 0, 0, 1]) rfl hX (by decide) rfl (by decide) rfl ?_
  refine go_int hJ (pc := 530) (f := 7) (x := 4) rfl hX rfl ?_
  refine go_arr hJ (pc := 533) (x := 64) (kd := 0) (f := 8) (vs := []) rfl hX (by decide) rfl (by decide) rfl ?_
  refine go_arr hJ (pc := 537) (x := 16) (kd := 0) (f := 9) (vs := []) rfl hX (by decide) rfl (by decide) rfl ?_
  refine go_arr hJ (pc := 541) (x := 16) (kd := 0) (f := 10) (vs := []) rfl hX (by decide) rfl (by decide) rfl ?_
  refine go_arr hJ (pc := 545) (x := 16) (kd := 1) (f := 11) (vs := []) rfl hX (by decide) rfl (by decide) rfl ?_
  refine go_arr hJ (pc := 549) (x := 13) (kd := 1) (f := 12) (vs := []) rfl hX (by decide) rfl (by decide) rfl ?_
  refine go_arr hJ (pc := 553) (x := 9) (kd := 0) (f := 13) (vs := [1, 2, 2, 1, 1, 4, 2, 5, 2]) rfl hX (by decide) rfl (by decide) rfl ?_
  refine go_arr hJ (pc := 593) (x := 4) (kd := 0) (f := 14) (vs := [60, 53, 48, 40]) rfl hX (by decide) rfl (by decide) rfl ?_
  refine go_arr hJ (pc := 613) (x := 4) (kd := 0) (f := 15) (vs := [81, 74, 69, 62]) rfl hX (by decide) rfl (by decide) rfl ?_
  refine go_arr hJ (pc := 633) (x := 25600) (kd := 0) (f := 16) (vs := []) rfl hX (by decide) rfl (by decide) rfl ?_
  refine go_arr hJ (pc := 637) (x := 6400) (kd := 0) (f := 17) (vs := []) rfl hX (by decide) rfl (by decide) rfl ?_
  refine go_arr hJ (pc := 641) (x := 6400) (kd := 0) (f := 18) (vs := []) rfl hX (by decide) rfl (by decide) rfl ?_
  refine go_arr hJ (pc := 645) (x := 16) (kd := 0) (f := 19) (vs := []) rfl hX (by decide) rfl (by decide) rfl ?_
  refine go_arr hJ (pc := 649) (x := 25600) (kd := 0) (f := 20) (vs := []) rfl hX (by decide) rfl (by decide) rfl ?_
  refine go_arr hJ (pc := 653) (x := 25600) (kd := 0) (f := 21) (vs := []) rfl hX (by decide) rfl (by decide) rfl ?_
  refine go_arr hJ (pc := 657) (x := 25600) (kd := 0) (f := 22) (vs := []) rfl hX (by decide) rfl (by decide) rfl ?_
  refine go_arr hJ (pc := 661) (x := 6400) (kd := 0) (f := 23) (vs := []) rfl hX (by decide) rfl (by decide) rfl ?_
  refine go_arr hJ (pc := 665) (x := 6400) (kd := 1) (f := 24) (vs := []) rfl hX (by decide) rfl (by decide) rfl ?_
  refine go_arr hJ (pc := 669) (x := 6400) (kd := 1) (f := 25) (vs := []) rfl hX (by decide) rfl (by decide) rfl ?_
  refine go_arr hJ (pc := 673) (x := 256) (kd := 0) (f := 27) (vs := []) rfl hX (by decide) rfl (by decide) rfl ?_
  refine go_arr hJ (pc := 677) (x := 64) (kd := 0) (f := 28) (vs := []) rfl hX (by decide) rfl (by decide) rfl ?_
  refine go_arr hJ (pc := 681) (x := 4) (kd := 0) (f := 29) (vs := []) rfl hX (by decide) rfl (by decide) rfl ?_
  refine go_arr hJ (pc := 685) (x := 4) (kd := 0) (f := 31) (vs := []) rfl hX (by decide) rfl (by decide) rfl ?_
  refine go_arr hJ (pc := 689) (x := 4) (kd := 0) (f := 33) (vs := []) rfl hX (by decide) rfl (by decide) rfl ?_
  refine go_arr hJ (pc := 693) (x := 4) (kd := 0) (f := 34) (vs := []) rfl hX (by decide) rfl (by decide) rfl ?_
  refine go_int hJ (pc := 697) (f := 0) (x := 0) rfl hX rfl ?_
  exact k
theorem nY {p : Nat} (h : p ∉ mdY) : p < 101 ∨ 129 < p := by
  rcases Nat.lt_or_ge p 101 with q | q
  · exact Or.inl q
  · rcases Nat.lt_or_ge 129 p with w | w
    · exact Or.inr w
    · exact absurd (by unfold mdY; simp; omega) h
set_option maxRecDepth 20000 in
theorem e10_init (l : Launch) (z : st_T) : ri_Ev l y10_init w10_init r10_init 100 200000 [.ref 117] ((st_h z).take 101 ++ [.inr (10, [.int 0, .null, .null, .null, .null, .int 0, .int 0, .int 0, .null, .null, .null, .null, .null, .null, .null, .null, .null, .null, .null, .null, .null, .null, .null, .null, .null, .null, .int 0, .null, .null, .null, .int 0, .null, .int 0, .null, .null, .int 0])]) (fun a h' => a = none ∧ ∃ z', h' = st_h z' ∧ MI z' T0 Q0 ∧ md mdY z z') := by
  refine ri_ev (t10_init l _) rfl rfl rfl (Nat.le_of_ble_eq_true rfl) rfl (z10_init l _) (fun J hJ => ?_)
  have l3 : ∀ n c, n + c = 8 → ∀ (a b d e : Nat → Int32), (∀ j, j < 64 → a j = -2) → (∀ j, j < 16 → b j = -2 ∧ d j = -2) → (∀ j, j < 13 → e j = if j < c then 1 else 0) → J 731 28 135022 [some (.ref 117), some (.int (nI c))] [] (st_h (fa (fa (fa (fa (zm z) 106 a) 107 b) 108 d) 110 e)) := by
    intro n
    induction n with
    | zero =>
      intro c hc a b d e ha hb he
      have h8 : c = 8 := by omega
      subst h8
      refine ri_go hJ [] 30 731 rfl ?_
      refine ⟨fun _ => ⟨rfl, _, rfl, ⟨⟨⟨rfl, rfl, rfl⟩, ?_, ?_, ?_, ?_, ?_, ?_, ?_⟩, rfl, fun h => absurd rfl h, fun k a h => by cases h⟩, fun p hp => ⟨?_, ?_⟩, rfl⟩, fun c => absurd (by decide) c⟩
      · intro j hj; exact ha j hj
      · intro i hi; exact ⟨(hb i hi).1, (hb i hi).2, rfl⟩
      · intro c hc
        refine (he c hc).trans ?_
        revert c hc; decide
      · intro k hk
        revert k hk; decide +kernel
      · intro k hk
        revert k hk; decide +kernel
      · intro k hk
        revert k hk; decide +kernel
      · intro k hk
        revert k hk; decide +kernel
      · have hp := nY hp
        show (if p < 101 then z.1 p else if 129 < p then z.1 p else _) = _
        rcases hp with hp | hp
        · rw [if_pos hp]
        · rw [if_neg (by omega), if_pos hp]
      · have hp := nY hp
        rw [fa_ne _ _ (by omega), fa_ne _ _ (by omega), fa_ne _ _ (by omega), fa_ne _ _ (by omega)]
        show (if p < 101 then z.2.1 p else if 129 < p then z.2.1 p else _) = _
        rcases hp with hp | hp
        · rw [if_pos hp]
        · rw [if_neg (by omega), if_pos hp]
    | succ n ih =>
      intro c hc a b d e ha hb he
      have e1 := nI_1 c
      refine ri_go hJ [731] 30 731 rfl ?_
      refine ⟨fun q => absurd q (nI_ge (a := c) (b := 8) (by omega) (by decide)), fun _ => ⟨vp_in_nI (by omega) (by decide), ?_⟩⟩
      have := ih (c + 1) (by omega) a b d (upd e (nI c).toNatClampNeg (vp_nar .boolean 1)) ha hb (fun j hj => by
        rw [nI_clamp (by omega)]
        by_cases q : j = c
        · rw [q, pk_us, if_pos (by omega)]; rfl
        · rw [pk_un q, he j hj]
          by_cases w : j < c
          · rw [if_pos w, if_pos (by omega)]
          · rw [if_neg w, if_neg (by omega)])
      rw [← e1] at this
      exact this
  have l2 : ∀ n c, n + c = 16 → ∀ (a b d : Nat → Int32), (∀ j, j < 64 → a j = -2) → (∀ j, j < c → b j = -2 ∧ d j = -2) → J 714 28 135022 [some (.ref 117), some (.int (nI c))] [] (st_h (fa (fa (fa (zm z) 106 a) 107 b) 108 d)) := by
    intro n
    induction n with
    | zero =>
      intro c hc a b d ha hb
      have h8 : c = 16 := by omega
      subst h8
      refine ri_go hJ [731] 30 714 rfl ?_
      exact ⟨fun _ => l3 8 0 rfl a b d (fun _ => 0) ha hb (fun j _ => by rw [if_neg (by omega)]), fun c => absurd (by decide) c⟩
    | succ n ih =>
      intro c hc a b d ha hb
      have e1 := nI_1 c
      refine ri_go hJ [714] 30 714 rfl ?_
      refine ⟨fun q => absurd q (nI_ge (a := c) (b := 16) (by omega) (by decide)), fun _ => ⟨vp_in_nI (by omega) (by decide), vp_in_nI (by omega) (by decide), ?_⟩⟩
      have := ih (c + 1) (by omega) a (upd b (nI c).toNatClampNeg (-2)) (upd d (nI c).toNatClampNeg (-2)) ha (fun j hj => by
        rw [nI_clamp (by omega)]
        by_cases q : j = c
        · rw [q, pk_us, pk_us]; exact ⟨rfl, rfl⟩
        · rw [pk_un q, pk_un q]; exact hb j (by omega))
      rw [← e1] at this
      exact this
  have l1 : ∀ n c, n + c = 64 → ∀ (a : Nat → Int32), (∀ j, j < c → a j = -2) → J 702 28 135022 [some (.ref 117), some (.int (nI c))] [] (st_h (fa (zm z) 106 a)) := by
    intro n
    induction n with
    | zero =>
      intro c hc a ha
      have h8 : c = 64 := by omega
      subst h8
      refine ri_go hJ [714] 30 702 rfl ?_
      exact ⟨fun _ => l2 16 0 rfl a (fun _ => 0) (fun _ => 0) ha (fun j hj => absurd hj (by omega)), fun c => absurd (by decide) c⟩
    | succ n ih =>
      intro c hc a ha
      have e1 := nI_1 c
      refine ri_go hJ [702] 30 702 rfl ?_
      refine ⟨fun q => absurd q (nI_ge (a := c) (b := 64) (by omega) (by decide)), fun _ => ⟨vp_in_nI (by omega) (by decide), ?_⟩⟩
      have := ih (c + 1) (by omega) (upd a (nI c).toNatClampNeg (-2)) (fun j hj => by
        rw [nI_clamp (by omega)]
        by_cases q : j = c
        · rw [q, pk_us]
        · rw [pk_un q]; exact ha j (by omega))
      rw [← e1] at this
      exact this
  refine e10_start l _ hJ ((st_h z).take 101) rfl ?_
  refine ri_go hJ [702] 30 700 rfl ?_
  exact l1 64 0 rfl (fun _ => 0) (fun j hj => absurd hj (by omega))
