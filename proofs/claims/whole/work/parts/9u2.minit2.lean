/-! the constructor of the reference, the end -/
theorem nY {p : Nat} (h : p ∉ mdY) : p < 101 ∨ 129 < p := by
  rcases Nat.lt_or_ge p 101 with q | q
  · exact Or.inl q
  · rcases Nat.lt_or_ge 129 p with w | w
    · exact Or.inr w
    · exact absurd (by unfold mdY; simp; omega) h
def v102 : Nat → Int32 := u0 (fun _ => 0) [0, 4, 7, (-1), 2, 5, 9, (-1), 4, 7, 11, (-1), 5, 9, 0, (-1), 7, 11, 2, (-1), 9, 0, 4, (-1), 11, 2, 5, (-1), 7, 11, 2, 5, 2, 5, 9, 0, 2, 6, 9, (-1), 2, 6, 9, 0, 4, 8, 11, (-1), 0, 4, 7, 10] 0
def v103 : Nat → Int32 := u0 (fun _ => 0) [0, 3, 7, (-1), 2, 5, 8, (-1), 3, 7, 10, (-1), 5, 8, 0, (-1), 7, 11, 2, (-1), 8, 0, 3, (-1), 11, 2, 5, (-1), 7, 11, 2, 5, 2, 5, 8, 0, 2, 6, 9, (-1), 2, 6, 9, 0, 3, 7, 10, (-1), 0, 4, 7, 10] 0
def v104 : Nat → Int32 := u0 (fun _ => 0) [1, 0, 1, 0, 1, 1, 0, 1, 0, 1, 0, 1] 0
def v105 : Nat → Int32 := u0 (fun _ => 0) [1, 0, 1, 1, 0, 1, 0, 1, 1, 0, 0, 1] 0
def v111 : Nat → Int32 := u0 (fun _ => 0) [1, 2, 2, 1, 1, 4, 2, 5, 2] 0
def v112 : Nat → Int32 := u0 (fun _ => 0) [60, 53, 48, 40] 0
def v113 : Nat → Int32 := u0 (fun _ => 0) [81, 74, 69, 62] 0
theorem v111_ok : ∀ k, k < 9 → v111 k = nI (T0 5 k) := by decide +kernel
theorem v112_ok : ∀ v, v < 4 → v112 v = nI (T0 6 v) ∧ v113 v = nI (T0 7 v) := by decide +kernel
theorem v102_ok : ∀ j, j < 52 → v102 j = nM (mJ.getD j 99) ∧ v103 j = nM (mN.getD j 99) := by decide +kernel
theorem v104_ok : ∀ d, d < 12 → v104 d = nI (sJ.getD d 0) ∧ v105 d = nI (sN.getD d 0) := by decide +kernel
def f0 : Nat → Int32 := fun _ => 0
def gmF (a b d e : Nat → Int32) (p : Nat) : Nat → Int32 := if p = 102 then v102 else if p = 103 then v103 else if p = 104 then v104 else if p = 105 then v105 else if p = 106 then a else if p = 107 then b else if p = 108 then d else if p = 110 then e else if p = 111 then v111 else if p = 112 then v112 else if p = 113 then v113 else f0
def zk (z : st_T) (a b d e : Nat → Int32) : st_T := (fun p => if p < 101 then z.1 p else if 129 < p then z.1 p else fun f => if f = 7 then 4 else 0, fun p => if p < 101 then z.2.1 p else if 129 < p then z.2.1 p else gmF a b d e p, z.2.2)
theorem zk_MI (z : st_T) (a b d e : Nat → Int32) (ha : ∀ j, j < 64 → a j = -2) (hb : ∀ j, j < 16 → b j = -2 ∧ d j = -2) (he : ∀ j, j < 13 → e j = if j < 8 then 1 else 0) : MI (zk z a b d e) T0 Q0 := by
  refine ⟨⟨⟨rfl, rfl, rfl⟩, fun j hj => ha j hj, fun i hi => ⟨(hb i hi).1, (hb i hi).2, rfl⟩, fun c hc => ?_, fun k hk => v111_ok k hk, fun v hv => v112_ok v hv, fun j hj => v102_ok j hj, fun d hd => v104_ok d hd⟩, rfl, fun h => absurd rfl h, fun k a h => by cases h⟩
  refine (he c hc).trans ?_
  revert c hc
  decide
theorem zk_md (z : st_T) (a b d e : Nat → Int32) : md mdY z (zk z a b d e) := by
  refine ⟨fun p hp => ⟨?_, ?_⟩, rfl⟩
  · have hp := nY hp
    show (if p < 101 then z.1 p else if 129 < p then z.1 p else _) = _
    rcases hp with hp | hp
    · rw [if_pos hp]
    · rw [if_neg (by omega), if_pos hp]
  · have hp := nY hp
    show (if p < 101 then z.2.1 p else if 129 < p then z.2.1 p else _) = _
    rcases hp with hp | hp
    · rw [if_pos hp]
    · rw [if_neg (by omega), if_pos hp]
theorem st_take (S F S' F' : Nat → Nat → Int32) (b : Bool) (h1 : ∀ p, p < 101 → S' p = S p) (h2 : ∀ p, p < 101 → F' p = F p) : (st_cells S F b).take 101 = (st_cells S' F' b).take 101 := by
  unfold st_cells
  simp only [List.take_succ_cons, List.take_zero]
  simp only [h1 1 (by decide), h1 9 (by decide), h1 18 (by decide), h1 21 (by decide), h1 75 (by decide), h1 23 (by decide), h1 26 (by decide), h1 29 (by decide), h1 32 (by decide), h1 35 (by decide), h1 38 (by decide), h1 41 (by decide), h1 44 (by decide), h1 47 (by decide), h1 50 (by decide), h1 53 (by decide), h1 56 (by decide), h1 59 (by decide), h1 62 (by decide), h1 65 (by decide), h1 68 (by decide), h1 72 (by decide), h2 2 (by decide), h2 3 (by decide), h2 4 (by decide), h2 5 (by decide), h2 6 (by decide), h2 7 (by decide), h2 8 (by decide), h2 9 (by decide), h2 10 (by decide), h2 11 (by decide), h2 12 (by decide), h2 13 (by decide), h2 14 (by decide), h2 15 (by decide), h2 16 (by decide), h2 17 (by decide), h2 18 (by decide), h2 19 (by decide), h2 20 (by decide), h2 21 (by decide), h2 22 (by decide), h2 23 (by decide), h2 24 (by decide), h2 25 (by decide), h2 26 (by decide), h2 27 (by decide), h2 28 (by decide), h2 29 (by decide), h2 30 (by decide), h2 31 (by decide), h2 32 (by decide), h2 33 (by decide), h2 34 (by decide), h2 35 (by decide), h2 36 (by decide), h2 37 (by decide), h2 38 (by decide), h2 39 (by decide), h2 40 (by decide), h2 41 (by decide), h2 42 (by decide), h2 43 (by decide), h2 44 (by decide), h2 45 (by decide), h2 46 (by decide), h2 47 (by decide), h2 48 (by decide), h2 49 (by decide), h2 50 (by decide), h2 51 (by decide), h2 52 (by decide), h2 53 (by decide), h2 54 (by decide), h2 55 (by decide), h2 56 (by decide), h2 57 (by decide), h2 58 (by decide), h2 59 (by decide), h2 60 (by decide), h2 61 (by decide), h2 62 (by decide), h2 63 (by decide), h2 64 (by decide), h2 65 (by decide), h2 66 (by decide), h2 67 (by decide), h2 68 (by decide), h2 69 (by decide), h2 70 (by decide), h2 71 (by decide), h2 72 (by decide), h2 73 (by decide), h2 74 (by decide), h2 75 (by decide), h2 76 (by decide), h2 77 (by decide), h2 78 (by decide), h2 79 (by decide), h2 80 (by decide), h2 81 (by decide), h2 82 (by decide), h2 83 (by decide), h2 84 (by decide), h2 85 (by decide), h2 86 (by decide), h2 87 (by decide), h2 88 (by decide), h2 89 (by decide), h2 90 (by decide), h2 91 (by decide), h2 92 (by decide), h2 93 (by decide), h2 94 (by decide), h2 95 (by decide), h2 96 (by decide), h2 97 (by decide), h2 98 (by decide), h2 99 (by decide), h2 100 (by decide)]
theorem zk_h (z : st_T) (a b d e : Nat → Int32) : (st_h z).take 101 ++ (.inr (10, [.int 0, .ref 118, .ref 119, .ref 120, .ref 121, .int 0, .int 0, .int 4, .ref 122, .ref 123, .ref 124, .ref 125, .ref 126, .ref 127, .ref 128, .ref 129, .ref 130, .ref 131, .ref 132, .ref 133, .ref 134, .ref 135, .ref 136, .ref 137, .ref 138, .ref 139, .int 0, .ref 140, .ref 141, .ref 142, .int 0, .ref 143, .int 0, .ref 144, .ref 145, .int 0]) :: [.inl (0, 52, .inl (v102)), .inl (0, 52, .inl (v103)), .inl (0, 12, .inl (v104)), .inl (0, 12, .inl (v105)), .inl (0, 64, .inl a), .inl (0, 16, .inl b), .inl (0, 16, .inl d), .inl (1, 16, .inl f0), .inl (1, 13, .inl e), .inl (0, 9, .inl (v111)), .inl (0, 4, .inl (v112)), .inl (0, 4, .inl (v113)), .inl (0, 25600, .inl f0), .inl (0, 6400, .inl f0), .inl (0, 6400, .inl f0), .inl (0, 16, .inl f0), .inl (0, 25600, .inl f0), .inl (0, 25600, .inl f0), .inl (0, 25600, .inl f0), .inl (0, 6400, .inl f0), .inl (1, 6400, .inl f0), .inl (1, 6400, .inl f0), .inl (0, 256, .inl f0), .inl (0, 64, .inl f0), .inl (0, 4, .inl f0), .inl (0, 4, .inl f0), .inl (0, 4, .inl f0), .inl (0, 4, .inl f0)]) = st_h (zk z a b d e) := by
  have e1 : (st_h z).take 101 = (st_h (zk z a b d e)).take 101 := st_take z.1 z.2.1 (zk z a b d e).1 (zk z a b d e).2.1 z.2.2 (fun p hp => if_pos hp) (fun p hp => if_pos hp)
  have e2 : st_h (zk z a b d e) = (st_h (zk z a b d e)).take 101 ++ (st_h (zk z a b d e)).drop 101 := (List.take_append_drop 101 _).symm
  rw [e1]
  refine Eq.trans ?_ e2.symm
  exact congrArg (fun t => (st_h (zk z a b d e)).take 101 ++ t) rfl
def PoM (z : st_T) : ri_O := fun a h' => a = none ∧ ∃ z', h' = st_h z' ∧ MI z' T0 Q0 ∧ md mdY z z'
set_option maxRecDepth 20000 in
theorem m_l3 (l : Launch) (z : st_T) {J : ri_K} (hJ : ri_clo J (t10_init l (PoM z))) : ∀ n c, n + c = 8 → ∀ (a b d e : Nat → Int32), (∀ j, j < 64 → a j = -2) → (∀ j, j < 16 → b j = -2 ∧ d j = -2) → (∀ j, j < 13 → e j = if j < c then 1 else 0) → J 731 28 135022 [some (.ref 117), some (.int (nI c))] [] (st_h (zk z a b d e)) := by
  intro n
  induction n with
  | zero =>
    intro c hc a b d e ha hb he
    have h8 : c = 8 := by omega
    subst h8
    refine ri_go hJ [] 30 731 rfl ?_
    exact ⟨fun _ => ⟨rfl, _, rfl, zk_MI z a b d e ha hb he, zk_md z a b d e⟩, fun c => absurd (by decide) c⟩
  | succ n ih =>
    intro c hc a b d e ha hb he
    have e1 := nI_1 c
    refine ri_go hJ [731] 30 731 rfl ?_
    refine ⟨fun q => absurd q (nI_ge (a := c) (b := 8) (by omega) (by decide)), fun _ => ⟨vp_in_nI (by omega) (by decide), ?_⟩⟩
    have := ih (c + 1) (by omega) a b d (upd e (nI c).toNatClampNeg (vp_nar .boolean 1)) ha hb (fun j hj => by
      rw [nI_clamp (by omega)]
      by_cases q : j = c
      · rw [q, pk_us, if_pos (by omega)]; rfl
      · rw [pk_un q, he j hj]
        by_cases w : j < c
        · rw [if_pos w, if_pos (by omega)]
        · rw [if_neg w, if_neg (by omega)])
    rw [← e1] at this
    exact this
set_option maxRecDepth 20000 in
theorem m_l2 (l : Launch) (z : st_T) {J : ri_K} (hJ : ri_clo J (t10_init l (PoM z))) : ∀ n c, n + c = 16 → ∀ (a b d : Nat → Int32), (∀ j, j < 64 → a j = -2) → (∀ j, j < c → b j = -2 ∧ d j = -2) → J 714 28 135022 [some (.ref 117), some (.int (nI c))] [] (st_h (zk z a b d f0)) := by
  intro n
  induction n with
  | zero =>
    intro c hc a b d ha hb
    have h8 : c = 16 := by omega
    subst h8
    refine ri_go hJ [731] 30 714 rfl ?_
    exact ⟨fun _ => m_l3 l z hJ 8 0 rfl a b d f0 ha hb (fun j _ => by rw [if_neg (by omega)]; rfl), fun c => absurd (by decide) c⟩
  | succ n ih =>
    intro c hc a b d ha hb
    have e1 := nI_1 c
    refine ri_go hJ [714] 30 714 rfl ?_
    refine ⟨fun q => absurd q (nI_ge (a := c) (b := 16) (by omega) (by decide)), fun _ => ⟨vp_in_nI (by omega) (by decide), vp_in_nI (by omega) (by decide), ?_⟩⟩
    have := ih (c + 1) (by omega) a (upd b (nI c).toNatClampNeg (-2)) (upd d (nI c).toNatClampNeg (-2)) ha (fun j hj => by
      rw [nI_clamp (by omega)]
      by_cases q : j = c
      · rw [q, pk_us, pk_us]; exact ⟨rfl, rfl⟩
      · rw [pk_un q, pk_un q]; exact hb j (by omega))
    rw [← e1] at this
    exact this
set_option maxRecDepth 20000 in
theorem m_l1 (l : Launch) (z : st_T) {J : ri_K} (hJ : ri_clo J (t10_init l (PoM z))) : ∀ n c, n + c = 64 → ∀ (a : Nat → Int32), (∀ j, j < c → a j = -2) → J 702 28 135022 [some (.ref 117), some (.int (nI c))] [] (st_h (zk z a f0 f0 f0)) := by
  intro n
  induction n with
  | zero =>
    intro c hc a ha
    have h8 : c = 64 := by omega
    subst h8
    refine ri_go hJ [714] 30 702 rfl ?_
    exact ⟨fun _ => m_l2 l z hJ 16 0 rfl a f0 f0 ha (fun j hj => absurd hj (by omega)), fun c => absurd (by decide) c⟩
  | succ n ih =>
    intro c hc a ha
    have e1 := nI_1 c
    refine ri_go hJ [702] 30 702 rfl ?_
    refine ⟨fun q => absurd q (nI_ge (a := c) (b := 64) (by omega) (by decide)), fun _ => ⟨vp_in_nI (by omega) (by decide), ?_⟩⟩
    have := ih (c + 1) (by omega) (upd a (nI c).toNatClampNeg (-2)) (fun j hj => by
      rw [nI_clamp (by omega)]
      by_cases q : j = c
      · rw [q, pk_us]
      · rw [pk_un q]; exact ha j (by omega))
    rw [← e1] at this
    exact this
set_option maxRecDepth 20000 in
theorem e10_init (l : Launch) (z : st_T) : ri_Ev l y10_init w10_init r10_init 100 200000 [.ref 117] ((st_h z).take 101 ++ [.inr (10, [.int 0, .null, .null, .null, .null, .int 0, .int 0, .int 0, .null, .null, .null, .null, .null, .null, .null, .null, .null, .null, .null, .null, .null, .null, .null, .null, .null, .null, .int 0, .null, .null, .null, .int 0, .null, .int 0, .null, .null, .int 0])]) (PoM z) := by
  refine ri_ev (t10_init l _) rfl rfl rfl (Nat.le_of_ble_eq_true rfl) rfl (z10_init l _) (fun J hJ => ?_)
  refine e10_start l _ hJ ((st_h z).take 101) rfl ?_
  have e := zk_h z f0 f0 f0 f0
  have k : J 700 28 135022 [some (.ref 117), none] [] (st_h (zk z f0 f0 f0 f0)) := by
    refine ri_go hJ [702] 30 700 rfl ?_
    exact m_l1 l z hJ 64 0 rfl f0 (fun j hj => absurd hj (by omega))
  rw [← e] at k
  exact k
