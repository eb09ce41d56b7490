/-! Harmony.tune, inScale; Score.clearFrom, givenNotes; Math.floorMod, Integer.bitCount -/
theorem anf4_tmof {T : tT} {c p : Nat} (hp : p < 12) : anf (fun k => tmem T c k == p) 4 0 = decide (tmof T c p < 4) := by
  have hm : p % 12 = p := Nat.mod_eq_of_lt hp
  show (tmem T c 0 == p || (tmem T c 1 == p || (tmem T c 2 == p || (tmem T c 3 == p || false)))) = _
  unfold tmof
  rw [hm]
  by_cases h0 : tmem T c 0 = p
  · rw [eq_b h0, if_pos h0]; rfl
  · rw [ne_b h0, if_neg h0]
    by_cases h1 : tmem T c 1 = p
    · rw [eq_b h1, if_pos h1]; rfl
    · rw [ne_b h1, if_neg h1]
      by_cases h2 : tmem T c 2 = p
      · rw [eq_b h2, if_pos h2]; rfl
      · rw [ne_b h2, if_neg h2]
        by_cases h3 : tmem T c 3 = p
        · rw [eq_b h3, if_pos h3]; rfl
        · rw [ne_b h3, if_neg h3]; rfl
theorem TI_next {z : st_T} {T : tT} {C : Nat} (h : TI z T C 4) : TI z T (C + 1) 0 := by
  obtain ⟨a, b, cc⟩ := h
  refine ⟨fun c k hc h13 h4 => a c k (by omega) h13 h4, fun k p hk hp => ?_, fun p hp => ?_⟩
  · rw [b k p hk hp]
    refine congrArg nI (msk_cong (fun c hc => ?_))
    unfold q11
    congr 1
    by_cases e : c = C
    · rw [e, eq_b rfl, decide_eq_true hk, decide_eq_true (Nat.lt_succ_self C)]; simp
    · rw [ne_b e, show decide (k < 0) = false from decide_eq_false (by omega), Bool.and_false, Bool.false_and, show decide (c < C + 1) = decide (c < C) from decide_eq_decide.mpr (by omega)]
  · rw [cc p hp]
    refine congrArg nI (msk_cong (fun c hc => ?_))
    unfold q12
    rw [anf4_tmof hp]
    show _ = (_ || (_ && false))
    rw [Bool.and_false, Bool.or_false]
    by_cases e : c = C
    · rw [e, eq_b rfl, decide_eq_true (Nat.lt_succ_self C), decide_eq_false (Nat.lt_irrefl C)]; simp
    · rw [ne_b e, Bool.false_and, Bool.or_false, show decide (c < C + 1) = decide (c < C) from decide_eq_decide.mpr (by omega)]
theorem TI_end {z : st_T} {T : tT} (h : TI z T 13 0) (h0 : z.1 9 0 = nI (T 8 0)) (h1 : z.1 9 1 = nI (T 8 1)) (h2 : z.1 9 2 = nI ((T 8 0 + 11) % 12)) (hu : ∀ a b, a < 13 → b < 13 → z.2.1 13 (16 * a + b) = nU (unt a b)) : RH z T := by
  obtain ⟨a, b, cc⟩ := h
  refine ⟨h0, h1, h2, fun c k hc hk => a c k (by omega) hc hk, fun k p hk hp => ?_, fun p hp => ?_, hu⟩
  · rw [b k p hk hp]
    refine congrArg nI (msk_cong (fun c hc => ?_))
    unfold q11
    rw [decide_eq_true hc]; rfl
  · rw [cc p hp]
    refine congrArg nI (msk_cong (fun c hc => ?_))
    unfold q12
    show (_ || (_ && false)) = _
    rw [decide_eq_true hc, Bool.true_and, Bool.and_false, Bool.or_false]
theorem msk_fal (P : Nat → Bool) (h : ∀ c, P c = false) : ∀ n, msk P n = 0
  | 0 => rfl
  | n + 1 => by
    unfold msk
    rw [msk_fal P h n, h n]; rfl
def md4 : List Nat := [9, 10, 11, 12]
set_option maxHeartbeats 1000000 in
theorem e1_tune (l : Launch) (x0 : ri_C) (r : List ri_C) (z : st_T) (T : tT) (h0 : T 8 0 < 12) (h1 : T 8 1 ≤ 1) (hu : ∀ a b, a < 13 → b < 13 → z.2.1 13 (16 * a + b) = nU (unt a b)) : ri_Ev l y1_tune w1_tune r1_tune 0 0 [.ref 25, .int (nI (T 8 0)), .int (nI (T 8 1))] (hv x0 z r) (ri_hx x0 r fun z' => RH z' T ∧ md md4 z z') := by
  refine ri_ev (t1_tune l _) rfl rfl rfl (Nat.le_of_ble_eq_true rfl) rfl (z1_tune l _) (fun J hJ => ?_)
  have loop : ∀ n C, n + C = 13 → ∀ z1 : st_T, TI z1 T C 0 → z1.1 9 0 = nI (T 8 0) → z1.1 9 1 = nI (T 8 1) → z1.1 9 2 = nI ((T 8 0 + 11) % 12) → md md4 z z1 → ∀ o, J 24 0 0 [some (.ref 25), some (.int (nI (T 8 0))), some (.int (nI (T 8 1))), some (.int (nI C)), o] [] (hv x0 z1 r) := by
    intro n
    induction n with
    | zero =>
      intro C hC z1 hI q0 q1 q2 hm o
      have hC13 : C = 13 := by omega
      subst hC13
      refine ri_go hJ [] 90 24 rfl ?_
      exact ⟨fun _ => ⟨rfl, z1, rfl, TI_end hI q0 q1 q2 (fun a b ha hb => by rw [md_F hm (by decide)]; exact hu a b ha hb), hm⟩, fun c => absurd (by decide) c⟩
    | succ n ih =>
      intro C hC z1 hI q0 q1 q2 hm o
      have e1 := nI_1 C
      have inner : ∀ n' K, n' + K = 4 → ∀ z2 : st_T, TI z2 T C K → z2.1 9 0 = nI (T 8 0) → z2.1 9 1 = nI (T 8 1) → z2.1 9 2 = nI ((T 8 0 + 11) % 12) → md md4 z z2 → J 29 0 0 [some (.ref 25), some (.int (nI (T 8 0))), some (.int (nI (T 8 1))), some (.int (nI C)), some (.int (nI K))] [] (hv x0 z2 r) := by
        intro n'
        induction n' with
        | zero =>
          intro K hK z2 hI2 p0 p1 p2 hm2
          have hK4 : K = 4 := by omega
          subst hK4
          refine ri_go hJ [24] 90 29 rfl ?_
          refine ⟨fun _ => ?_, fun c => absurd (by decide) c⟩
          have := ih (C + 1) (by omega) z2 (TI_next hI2) p0 p1 p2 hm2 (some (.int (nI 4)))
          rw [← e1] at this
          exact this
        | succ n' ihn =>
          intro K hK z2 hI2 p0 p1 p2 hm2
          have e2 := nI_1 K
          refine ri_go hJ [29] 90 29 rfl ?_
          refine ⟨fun c => absurd c (nI_ge (a := K) (b := 4) (by omega) (by decide)), fun _ => ⟨_, e1_tuneMember l x0 r z2 T h0 h1 p0 p1 (C := C) (K := K) (by omega) (by omega) hI2, ?_⟩⟩
          rintro r' h' ⟨rfl, z3, rfl, hI3, hm3⟩
          have f9 : z3.1 9 = z2.1 9 := (hm3.1 9 (by decide)).1
          have := ihn (K + 1) (by omega) z3 hI3 (by rw [f9]; exact p0) (by rw [f9]; exact p1) (by rw [f9]; exact p2) (md_tr hm2 (md_mo hm3 (by decide)))
          rw [← e2] at this
          exact this
      refine ri_go hJ [29] 90 24 rfl ?_
      exact ⟨fun c => absurd c (nI_ge (a := C) (b := 13) (by omega) (by decide)), fun _ => inner 4 0 rfl z1 hI q0 q1 q2 hm⟩
  have er : nI (T 8 0) + 11 - (nI (T 8 0) + 11) / 12 * 12 = nI ((T 8 0 + 11) % 12) := by
    rw [show (11 : Int32) = nI 11 from rfl, nI_add]; exact rem12 (by omega)
  refine ri_run_ok hJ [24] 90 0 0 0 _ _ _ ?_
  refine ⟨by decide, ?_⟩
  refine ⟨_, e15_fillH l (q := 27) (N := 48) (f := z.2.1 11) (h := hv x0 (fs (fs (fs z 9 0 (nI (T 8 0))) 9 1 (nI (T 8 1))) 9 2 (nI (T 8 0) + 11 - (nI (T 8 0) + 11) / 12 * 12)) r) (by decide) rfl rfl 0, ?_⟩
  rintro r' h' ⟨rfl, g11, hg11, rfl⟩
  refine ⟨_, e15_fillH l (q := 28) (N := 12) (f := z.2.1 12) (h := hv x0 (fa (fs (fs (fs z 9 0 (nI (T 8 0))) 9 1 (nI (T 8 1))) 9 2 (nI (T 8 0) + 11 - (nI (T 8 0) + 11) / 12 * 12)) 11 g11) r) (by decide) rfl rfl 0, ?_⟩
  rintro r' h' ⟨rfl, g12, hg12, rfl⟩
  refine loop 13 0 rfl (fa (fa (fs (fs (fs z 9 0 (nI (T 8 0))) 9 1 (nI (T 8 1))) 9 2 (nI (T 8 0) + 11 - (nI (T 8 0) + 11) / 12 * 12)) 11 g11) 12 g12) ⟨fun c k hc => absurd hc (by omega), fun k p hk hp => ?_, fun p hp => ?_⟩ ?_ ?_ ?_ ?_ none
  · rw [fa_ne _ _ (by decide), fa_self, hg11 _ (by omega), msk_fal]; rfl
    intro c
    unfold q11
    rw [show decide (k < 0) = false from decide_eq_false (by omega), show decide (c < 0) = false from decide_eq_false (by omega)]; simp
  · rw [fa_self, hg12 _ hp, msk_fal]; rfl
    intro c
    unfold q12
    rw [show decide (c < 0) = false from decide_eq_false (by omega)]
    show (false || (_ && false)) = false
    rw [Bool.and_false]; rfl
  · rw [fa_1, fa_1, fs_ff _ (by decide), fs_ff _ (by decide), fs_self]
  · rw [fa_1, fa_1, fs_ff _ (by decide), fs_self]
  · rw [fa_1, fa_1, fs_self, er]
  · exact md_tr (md_tr (md_tr (md_tr (md_fs (by decide)) (md_fs (by decide))) (md_fs (by decide))) (md_fa (by decide))) (md_fa (by decide))
/-- the beginning of the heap: x, score and its arrays -/
def hw (x0 : ri_C) (z : st_T) (r : List ri_C) : List ri_C := x0 :: .inr (0, [.int (z.1 1 0), .int (z.1 1 1), .ref 18, .ref 19, .ref 20, .ref 21, .ref 22, .ref 23, .ref 24]) :: .inl (0, 64, .inl (z.2.1 2)) :: .inl (0, 16, .inl (z.2.1 3)) :: .inl (0, 16, .inl (z.2.1 4)) :: .inl (1, 16, .inl (z.2.1 5)) :: .inl (0, 9, .inl (z.2.1 6)) :: .inl (0, 4, .inl (z.2.1 7)) :: .inl (0, 4, .inl (z.2.1 8)) :: r
theorem st_hw (z : st_T) : st_h z = hw ((st_h z).headD (.inr (0, []))) z ((st_h z).drop 9) := rfl
def ri_hy (x0 : ri_C) (r : List ri_C) (Q : st_T → Prop) : ri_O := fun a h' => a = none ∧ ∃ z', h' = hw x0 z' r ∧ Q z'
def md5 : List Nat := [2, 3, 4, 5]
/-- cleared from place n up to place i and voice v -/
def CL (z z' : st_T) (n i v : Nat) : Prop := (∀ j, j < 64 → z'.2.1 2 j = if 4 * n ≤ j ∧ j < 4 * i + v then -2 else z.2.1 2 j) ∧ (∀ j, j < 16 → z'.2.1 3 j = (if n ≤ j ∧ j < i then -2 else z.2.1 3 j) ∧ z'.2.1 4 j = (if n ≤ j ∧ j < i then -2 else z.2.1 4 j) ∧ z'.2.1 5 j = (if n ≤ j ∧ j < i then 0 else z.2.1 5 j))
set_option maxHeartbeats 1000000 in
theorem e0_clearFrom (l : Launch) (x0 : ri_C) (r : List ri_C) (z : st_T) {n : Nat} (hn : n ≤ 16) : ri_Ev l y0_clearFrom w0_clearFrom r0_clearFrom 0 0 [.ref 17, .int (nI n)] (hw x0 z r) (ri_hy x0 r fun z' => CL z z' n 16 0 ∧ md md5 z z') := by
  refine ri_ev (t0_clearFrom l _) rfl rfl rfl (Nat.le_of_ble_eq_true rfl) rfl (z0_clearFrom l _) (fun J hJ => ?_)
  have loop : ∀ m i, m + i = 16 → n ≤ i → ∀ z1 : st_T, CL z z1 n i 0 → md md5 z z1 → ∀ o, J 2 0 0 [some (.ref 17), some (.int (nI n)), some (.int (nI i)), o] [] (hw x0 z1 r) := by
    intro m
    induction m with
    | zero =>
      intro i hi hni z1 hc hm o
      have hi16 : i = 16 := by omega
      subst hi16
      refine ri_go hJ [] 90 2 rfl ?_
      exact ⟨fun _ => ⟨rfl, z1, rfl, hc, hm⟩, fun c => absurd (by decide) c⟩
    | succ m ih =>
      intro i hi hni z1 hc hm o
      have e1 := nI_1 i
      have inner : ∀ m' v, m' + v = 4 → ∀ z2 : st_T, CL z z2 n i v → md md5 z z2 → J 7 0 0 [some (.ref 17), some (.int (nI n)), some (.int (nI i)), some (.int (nI v))] [] (hw x0 z2 r) := by
        intro m'
        induction m' with
        | zero =>
          intro v hv z2 hc2 hm2
          have hv4 : v = 4 := by omega
          subst hv4
          have ii : vp_in (nI i) 16 := vp_in_nI (by omega) (by decide)
          have ci : (nI i).toNatClampNeg = i := cl31 (by omega)
          refine ri_go hJ [2] 90 7 rfl ?_
          refine ⟨fun _ => ⟨ii, ii, ii, ?_⟩, fun c => absurd (by decide) c⟩
          have := ih (i + 1) (by omega) (by omega) (fa (fa (fa z2 3 (upd (z2.2.1 3) i (-2))) 4 (upd (z2.2.1 4) i (-2))) 5 (upd (z2.2.1 5) i (vp_nar .boolean 0))) ⟨fun j hj => ?_, fun j hj => ⟨?_, ?_, ?_⟩⟩ (md_tr hm2 (md_tr (md_tr (md_fa (by decide)) (md_fa (by decide))) (md_fa (by decide)))) (some (.int (nI 4)))
          · rw [← e1] at this
            rw [show fa (fa (fa z2 3 (upd (z2.2.1 3) i (-2))) 4 (upd (z2.2.1 4) i (-2))) 5 (upd (z2.2.1 5) i (vp_nar .boolean 0)) = fa (fa (fa z2 3 (upd (z2.2.1 3) (nI i).toNatClampNeg (-2))) 4 (upd (z2.2.1 4) (nI i).toNatClampNeg (-2))) 5 (upd (z2.2.1 5) (nI i).toNatClampNeg (vp_nar .boolean 0)) by rw [ci]] at this
            exact this
          · rw [fa_ne _ _ (by decide), fa_ne _ _ (by decide), fa_ne _ _ (by decide), hc2.1 j hj]
            by_cases q : 4 * n ≤ j ∧ j < 4 * i + 4
            · rw [if_pos q, if_pos (by omega)]
            · rw [if_neg q, if_neg (by omega)]
          · rw [fa_ne _ _ (by decide), fa_ne _ _ (by decide), fa_self]
            by_cases q : j = i
            · rw [q, pk_us, if_pos (by omega)]
            · rw [pk_un q, (hc2.2 j hj).1]
              by_cases q2 : n ≤ j ∧ j < i
              · rw [if_pos q2, if_pos (by omega)]
              · rw [if_neg q2, if_neg (by omega)]
          · rw [fa_ne _ _ (by decide), fa_self]
            by_cases q : j = i
            · rw [q, pk_us, if_pos (by omega)]
            · rw [pk_un q, (hc2.2 j hj).2.1]
              by_cases q2 : n ≤ j ∧ j < i
              · rw [if_pos q2, if_pos (by omega)]
              · rw [if_neg q2, if_neg (by omega)]
          · rw [fa_self]
            by_cases q : j = i
            · rw [q, pk_us, if_pos (by omega)]; rfl
            · rw [pk_un q, (hc2.2 j hj).2.2]
              by_cases q2 : n ≤ j ∧ j < i
              · rw [if_pos q2, if_pos (by omega)]
              · rw [if_neg q2, if_neg (by omega)]
        | succ m' ihm =>
          intro v hv z2 hc2 hm2
          have e2 := nI_1 v
          have ei : nI i * 4 + nI v = nI (4 * i + v) := ix4
          refine ri_go hJ [7] 90 7 rfl ?_
          refine ⟨fun c => absurd c (nI_ge (a := v) (b := 4) (by omega) (by decide)), fun _ => ⟨?_, ?_⟩⟩
          · show vp_in (nI i * 4 + nI v) 64
            rw [ei]; exact vp_in_nI (by omega) (by decide)
          · have := ihm (v + 1) (by omega) (fa z2 2 (upd (z2.2.1 2) (4 * i + v) (-2))) ⟨fun j hj => ?_, hc2.2⟩ (md_tr hm2 (md_fa (by decide)))
            · rw [← e2, show fa z2 2 (upd (z2.2.1 2) (4 * i + v) (-2)) = fa z2 2 (upd (z2.2.1 2) (nI i * 4 + nI v).toNatClampNeg (-2)) by rw [ei, cl31 (by omega)]] at this
              exact this
            · rw [fa_self]
              by_cases q : j = 4 * i + v
              · rw [q, pk_us, if_pos (by omega)]
              · rw [pk_un q, hc2.1 j hj]
                by_cases q2 : 4 * n ≤ j ∧ j < 4 * i + v
                · rw [if_pos q2, if_pos (by omega)]
                · rw [if_neg q2, if_neg (by omega)]
      refine ri_go hJ [7] 90 2 rfl ?_
      exact ⟨fun c => absurd c (nI_ge (a := i) (b := 16) (by omega) (by decide)), fun _ => inner 4 0 rfl z1 hc hm⟩
  refine ri_run_ok hJ [2] 90 0 0 0 _ _ _ ?_
  refine loop (16 - n) n (by omega) (Nat.le_refl _) z ⟨fun j hj => by rw [if_neg (by omega)], fun j hj => ?_⟩ (md_rf _ _) none
  rw [if_neg (by omega), if_neg (by omega), if_neg (by omega)]
  exact ⟨rfl, rfl, rfl⟩
def gvn (T : tT) : Nat → Bool := fun j => !(T 0 j == 0)
theorem e0_givenNotes (l : Launch) (z : st_T) (T : tT) (hW : TW T) (hS : RS z T) : ri_Ev l y0_givenNotes w0_givenNotes r0_givenNotes 0 0 [.ref 17] (st_h z) (ri_is (nI (dcn (gvn T) 64)) (st_h z)) := by
  refine ri_ev (t0_givenNotes l _) rfl rfl rfl (Nat.le_of_ble_eq_true rfl) rfl (z0_givenNotes l _) (fun J hJ => ?_)
  have loop : ∀ n j, n + j = 64 → ∀ o, J 10 0 0 [some (.ref 17), some (.int (nI (dcn (gvn T) j))), some (.ref 18), some (.int (nI 64)), some (.int (nI j)), o] [] (st_h z) := by
    intro n
    induction n with
    | zero =>
      intro j hj o
      have hj64 : j = 64 := by omega
      subst hj64
      refine ri_go hJ [] 90 10 rfl ?_
      exact ⟨fun _ => ⟨rfl, rfl⟩, fun c => absurd (by decide) c⟩
    | succ n ih =>
      intro j hj o
      have e1 := nI_1 j
      have ez : z.2.1 2 (nI j).toNatClampNeg = nC (T 0 j) := by rw [cl31 (by omega)]; exact hS.1 j (by omega)
      have ht := hW.2.2.2.1 j (by omega)
      refine ri_go hJ [10] 90 10 rfl ?_
      refine ⟨fun c => absurd c (nI_ge (a := j) (b := 64) (by omega) (by decide)), fun _ => ⟨vp_in_nI (by omega) (by decide), fun c => ?_, fun c => ?_⟩⟩
      · have c : z.2.1 2 (nI j).toNatClampNeg = -2 := c
        rw [ez, nC_none (by omega)] at c
        have := ih (j + 1) (by omega) (some (.int (z.2.1 2 (nI j).toNatClampNeg)))
        rw [dcn_0 (show gvn T j = false by unfold gvn; rw [eq_b c]; rfl), ← e1] at this
        exact this
      · have c : ¬ z.2.1 2 (nI j).toNatClampNeg = -2 := c
        rw [ez, nC_none (by omega)] at c
        have := ih (j + 1) (by omega) (some (.int (z.2.1 2 (nI j).toNatClampNeg)))
        rw [dcn_1 (show gvn T j = true by unfold gvn; rw [ne_b c]; rfl), ← e1, ← nI_1] at this
        exact this
  refine ri_run_ok hJ [10] 90 0 0 0 _ _ _ ?_
  exact loop 64 0 rfl none
theorem ri_ofWF {l : Launch} {y : MethodName} {ws ws' : List Cond} {rm : Room} {Pc : Array Value → State → Prop} {Qc : Array Value → State → Outcome → State → Prop} {mc ms : Nat} {free : Addr → Prop} {cc : ByteArray} {maxL : Nat} {ret : Option FieldType} (hy : plainFor y = true) (hw : ws = Cond.code y cc maxL ret :: ws') (body : ∀ p e s m args below meth c s₁, BodyLoose p l y (headSpec ws rm) cc maxL ret e s m args below meth c s₁ → c.maxLocals = maxL → Pc args s → W p l e (headSpec ws rm).room s m args below meth c s.heap [] 0 0 (MQ below Qc args s mc ms free) (entryFrame m args maxL)) : Met l y ws rm Pc Qc mc ms free := by
  refine MetFree.of_bodySF (code := cc) (maxLocals := maxL) (ret := ret) hy ?_ ?_
  · intro args s m h hn
    obtain ⟨meth, c, h1, h2, h3, h4, h5, h6, -, -⟩ := Cond.code_spec hn (atoms_spec (ws := ws) h _ (by rw [hw]; exact List.mem_cons_self))
    exact ⟨meth, c, h1, h2, h3, h4, h5, h6⟩
  · intro p e s m args below meth c s₁ B hml hP _
    have hh0 : s₁.heap = s.heap := by rw [B.state]; rfl
    obtain ⟨t, a1, o, b1, b2, b3⟩ := body p e s m args below meth c s₁ B hml hP s₁ hh0 (Stand.of_body B)
    exact ⟨t, o, a1, b1, b2, ⟨b3.1, b3.2⟩⟩
theorem ri_evF {l : Launch} {y : MethodName} {ws ws' : List Cond} {rm : Room} {mc ms maxL : Nat} {cc : ByteArray} {ret : Option FieldType} {av : List Value} {h : List ri_C} {Po : ri_O} (tab : List ri_S) {pf : Nat → Nat} (hy : plainFor y = true) (hw : ws = Cond.code y cc maxL ret :: ws') (hav : av.all ri_cat1 = true) (hlen : av.length ≤ maxL) (h0 : pf 0 = 0)
    (hclo : ∀ (p : Program) (e : Env) (s : State) (m : MethodId) (args : Array Value) (below : List Frame) (meth : Method) (c : Code) (D : va_G) (ka : Nat → ClassId) (sa : Nat → Nat) (base : Nat), ri_X p s m args c cc maxL ws y.cls D ka sa base → meth.sig.returnType = ret → meth.locks = false → meth.name = y.name → ri_clo (ri_W p l e rm s m args below meth c D ka sa base maxL (MQ below (ri_Qc D ka sa base Po) args s mc ms (fun q => base ≤ q)) pf) tab)
    (hgo : ∀ J : ri_K, ri_clo J tab → J 0 0 0 (av.map some ++ List.replicate (maxL - av.length) none) [] h) : ri_Ev l y ws rm mc ms av h Po := by
  intro D ka sa base
  refine ri_ofWF (cc := cc) (maxL := maxL) (ret := ret) hy hw ?_
  intro p e s m args below meth c s₁ B hml hv
  obtain ⟨rfl, henv, hH⟩ := hv
  have hts := atoms_spec (ws := ws) B.pre
  have X : ri_X p s m _ c cc maxL ws y.cls D ka sa base := ⟨B.exec, B.bytes, hml, findClass_of_methodNamed B.named, hts, henv⟩
  have hJ := hclo p e s m _ below meth c D ka sa base X B.returns B.notSynchronized (name_of_methodNamed B.named B.method).1
  have hl := lv_entry (av.map (ri_v sa base)) (n := maxL) (by rw [ri_sl_len (ri_v_cat sa base) av hav]; exact hlen)
  rw [lg_entry_eq]
  have hll : ri_l sa base (lg_sl (av.map (ri_v sa base)) ++ List.replicate (maxL - (lg_sl (av.map (ri_v sa base))).length) Slot.unset).toArray maxL (av.map some ++ List.replicate (maxL - av.length) none) := by
    refine ⟨hl.1, hl.2.1, fun j v hj => ?_⟩
    by_cases hjl : j < av.length
    · rw [List.getElem?_append_left (by simpa using hjl), List.getElem?_map] at hj
      cases hav2 : av[j]? with
      | none => rw [hav2] at hj; cases hj
      | some w =>
        rw [hav2] at hj
        cases hj
        have h1 := ri_args_in (ri_v_cat sa base) av 0 j v hav hav2
        rw [Nat.zero_add] at h1
        exact ⟨hl.2.2 _ h1, ri_cat1_ok (List.all_eq_true.mp hav v (List.mem_of_getElem? hav2))⟩
    · rw [List.getElem?_append_right (by simpa using Nat.le_of_not_lt hjl)] at hj
      obtain ⟨_, h2⟩ := List.getElem?_eq_some_iff.mp hj
      simp at h2
  have hg : ri_W p l e rm s m _ below meth c D ka sa base maxL _ pf 0 0 0 _ [] h := hgo _ hJ
  have hg := hg s.heap [] _ hH va_S.rf hll
  rw [h0] at hg
  exact hg
theorem xor_nn {a : Nat} (ha : a < 2 ^ 31) : (0 : Int32) ≤ nI a ^^^ 12 := by
  have e : nI a ^^^ 12 = nI (a ^^^ 12) := by
    apply Int32.toBitVec_inj.mp
    simp [nI]
  rw [e]
  exact nI_pos' (Nat.xor_lt_two_pow ha (by decide))
theorem e14_floorMod (l : Launch) (h : List ri_C) {a : Nat} (ha : a < 2 ^ 31) : ri_Ev l y14_floorMod w14_floorMod r14_floorMod 0 0 [.int (nI a), .int 12] h (ri_is (nI (a % 12)) h) := by
  refine ri_evF (t14_floorMod l _) (by decide +kernel) rfl rfl (Nat.le_of_ble_eq_true rfl) rfl (z14_floorMod l _) (fun J hJ => ?_)
  refine ri_run_ok hJ [] 90 0 0 0 _ _ _ ?_
  refine ⟨by decide, fun _ => ⟨?_, rfl⟩, fun c => absurd (xor_nn ha) c⟩
  show some (Value.int (nI a - nI a / 12 * 12)) = _
  rw [rem12 ha]
def inS (T : tT) (p : Nat) : Bool := (if T 8 1 = 1 then [1, 0, 1, 1, 0, 1, 0, 1, 1, 0, 0, 1] else [1, 0, 1, 0, 1, 1, 0, 1, 0, 1, 0, 1]).getD ((p + 12 - T 8 0) % 12) 0 == 1
theorem scN : ∀ d, d < 12 → (((2477 : Int32) >>> (nI d &&& 31)) &&& 1 = 1 ↔ (([1, 0, 1, 1, 0, 1, 0, 1, 1, 0, 0, 1] : List Nat).getD d 0 == 1) = true) := by decide +kernel
theorem scJ : ∀ d, d < 12 → (((2741 : Int32) >>> (nI d &&& 31)) &&& 1 = 1 ↔ (([1, 0, 1, 0, 1, 1, 0, 1, 0, 1, 0, 1] : List Nat).getD d 0 == 1) = true) := by decide +kernel
theorem e1_inScale (l : Launch) (z : st_T) (T : tT) (hW : TW T) (hR : RH z T) {p : Nat} (hp : 12 ≤ p) (hp2 : p < 2 ^ 30) : ri_Ev l y1_inScale w1_inScale r1_inScale 0 0 [.ref 25, .int (nI p)] (st_h z) (ri_is (zb (inS T p)) (st_h z)) := by
  refine ri_ev (t1_inScale l _) rfl rfl rfl (Nat.le_of_ble_eq_true rfl) rfl (z1_inScale l _) (fun J hJ => ?_)
  have h0 := hW.2.1
  have h1 := hW.2.2.1
  have hd : (p - T 8 0) % 12 < 12 := Nat.mod_lt _ (by decide)
  have ed : (p + 12 - T 8 0) % 12 = (p - T 8 0) % 12 := by rw [show p + 12 - T 8 0 = (p - T 8 0) + 12 by omega]; exact Nat.add_mod_right _ _
  have k14 : ∀ k : Int32, ((k >>> (nI ((p - T 8 0) % 12) &&& 31)) &&& 1 = 1 ↔ inS T p = true) → J 14 0 0 [some (.ref 25), some (.int (nI p)), some (.int (nI ((p - T 8 0) % 12))), none] [.int k] (st_h z) := by
    intro k hk
    refine ri_go hJ [] 90 14 rfl ?_
    refine ⟨fun c => ⟨rfl, ?_, rfl⟩, fun c => ⟨rfl, ?_, rfl⟩⟩
    · have : inS T p = false := Bool.eq_false_iff.mpr (fun q => c (hk.mpr q))
      rw [this]; rfl
    · rw [hk.mp (Decidable.not_not.mp c)]; rfl
  refine ri_run_ok hJ [14] 90 0 0 0 _ _ _ ?_
  have ef := e14_floorMod l (st_h z) (a := p - T 8 0) (by omega)
  rw [← pk_sub (show T 8 0 ≤ p by omega), ← hR.1] at ef
  refine ⟨_, ef, ?_⟩
  rintro r h' ⟨rfl, rfl⟩
  refine ⟨fun c => k14 _ ?_, fun c => k14 _ ?_⟩
  · have c : ¬ z.1 9 1 = 1 := c
    rw [hR.2.1, nk_eq (k := 1) (b := 1) rfl (by omega) (by decide)] at c
    unfold inS
    rw [if_neg c, ed]
    exact scJ _ hd
  · have c : z.1 9 1 = 1 := Decidable.not_not.mp c
    rw [hR.2.1, nk_eq (k := 1) (b := 1) rfl (by omega) (by decide)] at c
    unfold inS
    rw [if_pos c, ed]
    exact scN _ hd
def sru (x y : Int32) : Int32 := (x.toUInt32 >>> (y.toUInt32 &&& Int32.toUInt32 31)).toInt32
def bc1 (x : Int32) : Int32 := x - (sru x 1 &&& 1431655765)
def bc2 (x : Int32) : Int32 := (x &&& 858993459) + (sru x 2 &&& 858993459)
def bc3 (x : Int32) : Int32 := (x + sru x 4) &&& 252645135
def bc4 (x : Int32) : Int32 := x + sru x 8
def bc5 (x : Int32) : Int32 := x + sru x 16
def bcI (x : Int32) : Int32 := bc5 (bc4 (bc3 (bc2 (bc1 x)))) &&& 63
theorem e13_bitCount (l : Launch) (h : List ri_C) (x : Int32) : ri_Ev l y13_bitCount w13_bitCount r13_bitCount 0 0 [.int x] h (ri_is (bcI x) h) := by
  refine ri_ev (t13_bitCount l _) rfl rfl rfl (Nat.le_of_ble_eq_true rfl) rfl (z13_bitCount l _) (fun J hJ => ?_)
  refine ri_run_ok hJ [] 90 0 0 0 _ _ _ ?_
  exact ⟨rfl, rfl⟩
