/-! THE REFERENCE: blocked, repair -/
theorem come_st (T : tT) (i y : Nat) : come T (i + 1) y = (stL T i).any (fun x => come T i x && alw T x y) := by rw [come]
theorem e10_firstBarred (l : Launch) (z : st_T) (T : tT) (hW : TW T) (hM : RM z T) (hA : MA z T (T 8 2)) (h4 : FEW T) : ri_Ev l y10_firstBarred w10_firstBarred r10_firstBarred 0 0 [.ref 117] (st_h z) (fun r h' => ∃ z', r = some (.int (n9 (fu T))) ∧ h' = st_h z' ∧ mm [35] [123] z z' ∧ ∀ i, i < 90 → fu T = i + 1 → z'.1 101 35 = stp T i) := by
  have e := e10_firstBarredG l z T hW hM (stL T) (come T) hA h4 (fun i s x h => okS_CK (stL_at h)) (fun x => by rw [come]) (come_st T)
  have ef : fuG (stL T) (come T) (T 8 2) 0 = fu T := (fuG_F T _ _).symm
  have es : ∀ i, orL (fun y => orL (sbG T (come T i) y) (stL T i)) (stL T (i + 1)) = stp T i := fun i => (stp_eq T i).symm
  rw [ef] at e
  simp only [es] at e
  exact e
theorem bt2 {w : Int32} (h : bt 0 w 2 = true) : w = 0 ∨ w = 1 ∨ w = 2 := by
  obtain ⟨h1, h2⟩ := nt_le (m := 2) (by decide) h
  rw [← h2]
  have : nt w = 0 ∨ nt w = 1 ∨ nt w = 2 := by omega
  rcases this with q | q | q
  · left; rw [q]; rfl
  · right; left; rw [q]; rfl
  · right; right; rw [q]; rfl
theorem n9_pos {n : Nat} (h : n < 2 ^ 31) : 0 ≤ n9 n ↔ ¬ n = 99 := by
  unfold n9
  by_cases q : n = 99
  · rw [if_pos q]; exact ⟨fun h => absurd h (by decide), fun h => absurd q h⟩
  · rw [if_neg q]; exact ⟨fun _ => q, fun _ => nI_pos' h⟩
theorem fu_b (T : tT) (hn : T 8 2 ≤ 16) : fu T < 2 ^ 31 := by
  by_cases q : fu T = 99
  · omega
  · have := fu_lt q; omega
set_option maxHeartbeats 1000000 in
theorem e10_blocked (l : Launch) (z : st_T) (T : tT) (Q : tQ) (hW : TW T) (hI : MI z T Q) (w : Int32) : ri_Ev l y10_blocked w10_blocked r10_blocked 0 0 [.ref 117, .int w] (st_h z) (MO z (sp_blocked T Q w)) := by
  have hI0 := MI_0 hI
  have hn := hW.1
  refine ri_ev (t10_blocked l _) rfl rfl rfl (Nat.le_of_ble_eq_true rfl) rfl (z10_blocked l _) (fun J hJ => ?_)
  refine ri_run_ok hJ [] 90 0 0 0 _ _ _ ?_
  refine ⟨_, e10_inI l (st_h (m0 z)) w 0 2 rfl rfl, ?_⟩
  rintro r h' ⟨rfl, rfl⟩
  refine ⟨fun c1 => ?_, fun c => MO_same hI (by unfold sp_blocked; rw [zb_0.mp (Decidable.not_not.mp c)]; rfl)⟩
  have b1 := zb_1.mp c1
  have es : ∀ v, bkA T w = v → sp_blocked T Q w = (v, T, Q) := fun v e => by unfold sp_blocked; rw [b1, e]; rfl
  refine ⟨_, e10_findAll l (m0 z) T hW hI0.1, ?_⟩
  rintro r h' ⟨z1, rfl, rfl, hm1, hA1⟩
  have hq1 : mm [0, 32, 35] [114, 115, 116, 117, 123, 127] z z1 := mm_tr (mm_mo (m0_mm z) (by decide) (by decide)) (mm_mo hm1 (by decide) (by decide))
  refine ⟨fun c2 => ?_, fun c2 => ?_⟩
  · have ho : ovf T = false := zbn_1.mp (by simpa using c2) |> fun h => by
      cases e : ovf T with
      | false => rfl
      | true => rw [e] at c2; exact absurd rfl c2
    have hA := hA1 ho
    have h4 := ovf_few ho
    have hM1 := RM_mm hI0.1 hm1 (by decide) (by decide)
    refine ⟨_, e10_firstBarred l z1 T hW hM1 hA h4, ?_⟩
    rintro r h' ⟨z2, rfl, rfl, hm2, h35⟩
    have hq2 : mm [0, 32, 35] [114, 115, 116, 117, 123, 127] z z2 := mm_tr hq1 (mm_mo hm2 (by decide) (by decide))
    have hI2 : MI z2 T Q := MI_mm hI hq2 (by decide) (by decide)
    have fin : ∀ v, bkA T w = v → MO z (sp_blocked T Q w) (some (.int v)) (st_h z2) := fun v e => MO_mm (es v e) hI2 hq2 (by decide)
    have hfb := fu_b T (by omega)
    have eb : bkA T w = if fu T = 99 then -2 else if w = 0 then nI (fu T) else if w = 1 then nI (stL T (fu T)).length else if (stL T (fu T)).length = 0 then brv T (fu T) else stp T (fu T - 1) := by
      unfold bkA; rw [ho]; rfl
    refine ⟨fun c3 => ?_, fun c3 => ?_⟩
    · have c3 : 0 ≤ n9 (fu T) := c3
      rw [n9_pos hfb] at c3
      rw [if_neg c3] at eb
      have hf := fu_lt c3
      have en : n9 (fu T) = nI (fu T) := if_neg c3
      have vi : vp_in (n9 (fu T)) 16 := by rw [en]; exact vp_in_nI (by omega) (by decide)
      have ec : z2.2.1 117 (n9 (fu T)).toNatClampNeg = nI (stL T (fu T)).length := by rw [en, cl31 (by omega), hm2.1 117 (by decide)]; exact (hA _ hf).1
      have hl := h4 _ hf
      refine ⟨fun c4 => ⟨vi, fun c5 => ?_, fun c5 => fin (z2.1 101 35) ?_⟩, fun c4 => ⟨fun c5 => ⟨vi, fin _ ?_⟩, fun c5 => fin _ ?_⟩⟩
      · have c4 : (2 : Int32) ≤ w := c4
        have c5 : z2.2.1 117 (n9 (fu T)).toNatClampNeg ≤ nI 0 := c5
        rw [ec, nn_le (by omega) (by decide)] at c5
        have w0 : ¬ w = 0 := fun e => by rw [e] at c4; exact absurd c4 (by decide)
        have w1 : ¬ w = 1 := fun e => by rw [e] at c4; exact absurd c4 (by decide)
        rw [if_neg w0, if_neg w1, if_pos (by omega)] at eb
        have e := e10_findB l z2 T hW hI2.1 (i := fu T) hf
        rw [← en] at e
        refine ⟨_, e, ?_⟩
        rintro r h' ⟨n, z3, rfl, rfl, hIB⟩
        have hq3 : mm [0, 32, 35] [114, 115, 116, 117, 123, 127] z z3 := mm_tr hq2 (mm_mo hIB.2.1.2.2 (by decide) (by decide))
        refine MO_mm (v := z3.1 101 32) (es _ ?_) (MI_mm hI hq3 (by decide) (by decide)) hq3 (by decide)
        rw [eb]
        exact brv_eq (findB_end hIB)
      · have c4 : (2 : Int32) ≤ w := c4
        have c5 : ¬ z2.2.1 117 (n9 (fu T)).toNatClampNeg ≤ nI 0 := c5
        rw [ec, nn_le (by omega) (by decide)] at c5
        have w0 : ¬ w = 0 := fun e => by rw [e] at c4; exact absurd c4 (by decide)
        have w1 : ¬ w = 1 := fun e => by rw [e] at c4; exact absurd c4 (by decide)
        rw [eb, if_neg w0, if_neg w1, if_neg (by omega)]
        have hf0 : ¬ fu T = 0 := fun e => by
          have := fu_0 hn.1 e
          rw [e, this] at c5
          exact c5 (Nat.le_refl 0)
        exact (h35 (fu T - 1) (by omega) (by omega)).symm
      · have c4 : ¬ (2 : Int32) ≤ w := c4
        have c5 : ¬ w = 0 := c5
        have w1 : w = 1 := by
          rcases bt2 b1 with q | q | q
          · exact absurd q c5
          · exact q
          · rw [q] at c4; exact absurd (by decide) c4
        rw [eb, if_neg c5, if_pos w1]
        exact ec.symm
      · have c5 : w = 0 := Decidable.not_not.mp c5
        rw [eb, if_pos c5, en]
    · have c3 : ¬ 0 ≤ n9 (fu T) := c3
      rw [n9_pos hfb] at c3
      refine fin _ ?_
      rw [eb, if_pos (Decidable.not_not.mp c3)]
  · have ho : ovf T = true := by
      cases e : ovf T with
      | true => rfl
      | false => rw [e] at c2; exact absurd (by decide) c2
    refine MO_mm (es _ ?_) (MI_mm hI hq1 (by decide) (by decide)) hq1 (by decide)
    unfold bkA; rw [ho]; rfl
-- one note less: only its own place changes
theorem okS_fr (T : tT) (k : Nat) {j x : Nat} (h : ¬ j = k / 4) : okS (frT T k) j x = okS T j x := by
  have e : ∀ v, v < 4 → rgv (frT T k) j v x = rgv T j v x := by
    intro v hv
    unfold rgv lowN highN
    rw [frT_0, if_neg (show ¬ 4 * j + v = k by omega)]; rfl
  unfold okS
  rw [e 0 (by decide), e 1 (by decide), e 2 (by decide), e 3 (by decide)]; rfl
theorem stB_fr (T : tT) (k : Nat) {j : Nat} (h : ¬ j = k / 4) (B : Nat) : stB (frT T k) j B = stB T j B := by
  unfold stB
  exact List.filter_congr (fun x _ => okS_fr T k h)
theorem stL_fr (T : tT) (k : Nat) {j : Nat} (h : ¬ j = k / 4) : stL (frT T k) j = stL T j := by
  unfold stL
  exact stB_fr T k h _
theorem alw_fr (T : tT) (k x y : Nat) : alw (frT T k) x y = alw T x y := rfl
theorem any_cg {f g : Nat → Bool} {X : List Nat} (h : ∀ x, f x = g x) : X.any f = X.any g := by rw [show f = g from funext h]
theorem come_fr (T : tT) (k : Nat) : ∀ i, i ≤ k / 4 → ∀ x, come (frT T k) i x = come T i x
  | 0, _, x => by rw [come, come]
  | i + 1, h, y => by
    rw [come_st, come_st, stL_fr T k (show ¬ i = k / 4 by omega)]
    exact any_cg (fun x => by rw [come_fr T k i (by omega) x, alw_fr])
theorem goF_fr (T : tT) (k : Nat) : ∀ n i, k / 4 ≤ i → ∀ x, goF (frT T k) n i x = goF T n i x
  | 0, _, _, _ => rfl
  | n + 1, i, h, x => by
    rw [goF, goF, stL_fr T k (show ¬ i + 1 = k / 4 by omega)]
    exact any_cg (fun y => by rw [goF_fr T k n (i + 1) (by omega) y, alw_fr])
theorem goes_fr (T : tT) (k : Nat) {i : Nat} (h : k / 4 ≤ i) (x : Nat) : goes (frT T k) i x = goes T i x := goF_fr T k _ i h x
-- rows come through, or they don't: at every place alike
def AJ (T : tT) (i : Nat) : Bool := (stL T i).any (jnP T i)
theorem AJ_st {T : tT} {i : Nat} (h : i + 1 < T 8 2) : AJ T i = true ↔ AJ T (i + 1) = true := by
  unfold AJ
  rw [List.any_eq_true, List.any_eq_true]
  constructor
  · rintro ⟨x, hx, hj⟩
    unfold jnP at hj
    rw [Bool.and_eq_true, goes_step h, List.any_eq_true] at hj
    obtain ⟨hc, y, hy, hg⟩ := hj
    rw [Bool.and_eq_true] at hg
    refine ⟨y, hy, ?_⟩
    unfold jnP
    rw [Bool.and_eq_true, come_st, List.any_eq_true]
    exact ⟨⟨x, hx, by rw [Bool.and_eq_true]; exact ⟨hc, hg.2⟩⟩, hg.1⟩
  · rintro ⟨y, hy, hj⟩
    unfold jnP at hj
    rw [Bool.and_eq_true, come_st, List.any_eq_true] at hj
    obtain ⟨⟨x, hx, hc⟩, hg⟩ := hj
    rw [Bool.and_eq_true] at hc
    refine ⟨x, hx, ?_⟩
    unfold jnP
    rw [Bool.and_eq_true, goes_step h, List.any_eq_true]
    exact ⟨hc.1, y, hy, by rw [Bool.and_eq_true]; exact ⟨hg, hc.2⟩⟩
theorem AJ_up {T : tT} : ∀ n i, i + n < T 8 2 → (AJ T i = true ↔ AJ T (i + n) = true)
  | 0, _, _ => Iff.rfl
  | n + 1, i, h => by
    rw [AJ_up n i (by omega), AJ_st (show i + n + 1 < T 8 2 by omega)]; rfl
theorem AJ_last {T : tT} {i : Nat} (h : i + 1 = T 8 2) : AJ T i = (stL T i).any (come T i) := by
  unfold AJ jnP
  exact any_cg (fun x => by rw [goes_last h, Bool.and_true])
theorem come_dn {T : tT} {i : Nat} (h : (stL T (i + 1)).any (come T (i + 1)) = true) : (stL T i).any (come T i) = true := by
  rw [List.any_eq_true] at h ⊢
  obtain ⟨y, hy, hc⟩ := h
  rw [come_st, List.any_eq_true] at hc
  obtain ⟨x, hx, hc⟩ := hc
  rw [Bool.and_eq_true] at hc
  exact ⟨x, hx, hc.1⟩
theorem dn_all (P : Nat → Prop) (h : ∀ i, P (i + 1) → P i) : ∀ n i, P (i + n) → P i
  | 0, _, q => q
  | n + 1, i, q => dn_all P h n i (h _ q)
theorem come_dns {T : tT} (n i : Nat) (h : (stL T (i + n)).any (come T (i + n)) = true) : (stL T i).any (come T i) = true := dn_all (fun i => (stL T i).any (come T i) = true) (fun i => come_dn) n i h
theorem fuF_99 {T : tT} : ∀ n i, i + n < 50 → (fuF T n i = 99 ↔ ∀ j, i ≤ j → j < i + n → (stL T j).any (come T j) = true)
  | 0, i, _ => ⟨fun _ j h1 h2 => absurd h2 (by omega), fun _ => rfl⟩
  | n + 1, i, hb => by
    unfold fuF
    by_cases q : (stL T i).any (come T i) = true
    · rw [if_pos q, fuF_99 n (i + 1) (by omega)]
      constructor
      · intro h j h1 h2
        by_cases e : j = i
        · rw [e]; exact q
        · exact h j (by omega) (by omega)
      · intro h j h1 h2
        exact h j (by omega) (by omega)
    · rw [if_neg q]
      constructor
      · intro h; omega
      · intro h; exact absurd (h i (Nat.le_refl _) (by omega)) q
theorem fu_AJ {T : tT} (hW : TW T) {p : Nat} (hp : p < T 8 2) : fu T = 99 ↔ AJ T p = true := by
  have hn := hW.1
  have e := AJ_up (T := T) (T 8 2 - 1 - p) p (by omega)
  rw [e, show p + (T 8 2 - 1 - p) = T 8 2 - 1 by omega, AJ_last (by omega)]
  unfold fu
  rw [fuF_99 _ _ (by omega)]
  constructor
  · intro h; exact h _ (Nat.zero_le _) (by omega)
  · intro h j _ hj
    refine come_dns (T 8 2 - 1 - j) j ?_
    rw [show j + (T 8 2 - 1 - j) = T 8 2 - 1 by omega]; exact h
theorem fu_fr {T : tT} (hW : TW T) {k : Nat} (hk : k / 4 < T 8 2) : fu (frT T k) = 99 ↔ (stL (frT T k) (k / 4)).any (jnP T (k / 4)) = true := by
  rw [fu_AJ (TW_fr hW k) (p := k / 4) hk]
  unfold AJ
  rw [any_cg (f := jnP (frT T k) (k / 4)) (g := jnP T (k / 4)) (fun x => by
    unfold jnP
    rw [come_fr T k _ (Nat.le_refl _), goes_fr T k (Nat.le_refl _)])]
theorem ovf_fr {T : tT} {k : Nat} (hk : k / 4 < T 8 2) (ho : ovf T = false) : ovf (frT T k) = true ↔ 400 < (stL (frT T k) (k / 4)).length := by
  have h4 := ovf_few ho
  unfold ovf
  rw [anf_iff]
  constructor
  · rintro ⟨u, -, hu, hp⟩
    have hu : u < T 8 2 := by
      have : u < 0 + frT T k 8 2 := hu
      have e : frT T k 8 2 = T 8 2 := rfl
      omega
    have hp : 400 < (stL (frT T k) u).length := of_decide_eq_true hp
    by_cases e : u = k / 4
    · rw [← e]; exact hp
    · rw [stL_fr T k e] at hp
      have := h4 u hu
      omega
  · intro h
    refine ⟨k / 4, Nat.zero_le _, ?_, decide_eq_true h⟩
    show k / 4 < 0 + frT T k 8 2
    have e : frT T k 8 2 = T 8 2 := rfl
    omega
