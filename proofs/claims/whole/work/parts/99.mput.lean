/-! THE REFERENCE: states in their order: orderTo, putState -/
/-- entry s holds the state y -/
def EN (z : st_T) (T : tT) (s y : Nat) : Prop := (∀ v, v < 4 → z.2.1 114 (4 * s + v) = nI (pit y v)) ∧ z.2.1 115 s = nI (chd y) ∧ z.2.1 116 s = nI (cst T y)
def MS (z : st_T) (T : tT) (i : Nat) (L : List Nat) : Prop := ∀ (j y : Nat), L[j]? = some y → j < 400 → EN z T (400 * i + j) y
theorem lex_lt {x y v : Nat} (hx : x < 2 ^ 28) (hy : y < 2 ^ 28) (hv : v < 4) (he : ∀ u, u < v → pit y u = pit x u) (h : pit y v < pit x v) : y < x := by
  have e : ∀ u, u < 4 → (u < v → pit y u = pit x u) := fun u _ => he u
  match v, hv, h, he with
  | 0, _, h, _ => rw [pit0, pit0] at h; omega
  | 1, _, h, he =>
    have h0 := he 0 (by decide)
    rw [pit0, pit0] at h0
    rw [pit1, pit1] at h; omega
  | 2, _, h, he =>
    have h0 := he 0 (by decide)
    have h1 := he 1 (by decide)
    rw [pit0, pit0] at h0
    rw [pit1, pit1] at h1
    rw [pit2, pit2] at h; omega
  | 3, _, h, he =>
    have h0 := he 0 (by decide)
    have h1 := he 1 (by decide)
    have h2 := he 2 (by decide)
    rw [pit0, pit0] at h0
    rw [pit1, pit1] at h1
    rw [pit2, pit2] at h2
    rw [pit3, pit3] at h; omega
  | v + 4, hv, _, _ => exact absurd hv (by omega)
theorem lex_eq {x y : Nat} (hx : x < 2 ^ 28) (hy : y < 2 ^ 28) (he : ∀ u, u < 4 → pit y u = pit x u) : (y < x ↔ chd y < chd x) ∧ y / 16 = x / 16 := by
  have h0 := he 0 (by decide)
  have h1 := he 1 (by decide)
  have h2 := he 2 (by decide)
  have h3 := he 3 (by decide)
  rw [pit0, pit0] at h0
  rw [pit1, pit1] at h1
  rw [pit2, pit2] at h2
  rw [pit3, pit3] at h3
  rw [chd_d, chd_d]
  omega
theorem e10_orderTo (l : Launch) (z : st_T) {s x y : Nat} (hs : s < 6400) (hx : x < 2 ^ 28) (hy : y < 2 ^ 28) (hE : (∀ v, v < 4 → z.2.1 114 (4 * s + v) = nI (pit y v)) ∧ z.2.1 115 s = nI (chd y)) (hN : NW z (pit x)) : ri_Ev l y10_orderTo w10_orderTo r10_orderTo 0 0 [.ref 117, .int (nI s), .int (nI (chd x))] (st_h z) (ri_is (if y < x then -1 else 1) (st_h z)) := by
  refine ri_ev (t10_orderTo l _) rfl rfl rfl (Nat.le_of_ble_eq_true rfl) rfl (z10_orderTo l _) (fun J hJ => ?_)
  have loop : ∀ n v, n + v = 4 → (∀ u, u < v → pit y u = pit x u) → J 2 0 0 [some (.ref 117), some (.int (nI s)), some (.int (nI (chd x))), some (.int (nI v))] [] (st_h z) := by
    intro n
    induction n with
    | zero =>
      intro v hv he
      have hv4 : v = 4 := by omega
      subst hv4
      have hl := lex_eq hx hy he
      have c1 : chd x < 16 := Nat.mod_lt _ (by decide)
      have c2 : chd y < 16 := Nat.mod_lt _ (by decide)
      have ec : z.2.1 115 (nI s).toNatClampNeg = nI (chd y) := by rw [cl31 (by omega)]; exact hE.2
      refine ri_go hJ [] 90 2 rfl ?_
      refine ⟨fun _ => ⟨vp_in_nI (by omega) (by decide), fun q => ⟨?_, rfl⟩, fun q => ⟨?_, rfl⟩⟩, fun c => absurd (by decide) c⟩
      · have q : nI (chd x) ≤ z.2.1 115 (nI s).toNatClampNeg := q
        rw [ec, nn_le (by omega) (by omega)] at q
        rw [if_neg (fun h => by have := hl.1.mp h; omega)]
      · have q : ¬ nI (chd x) ≤ z.2.1 115 (nI s).toNatClampNeg := q
        rw [ec, nn_le (by omega) (by omega)] at q
        rw [if_pos (hl.1.mpr (by omega))]
    | succ n ih =>
      intro v hv he
      have e1 := nI_1 v
      have ei : 4 * nI s + nI v = nI (4 * s + v) := ix4d
      have ii : vp_in (4 * nI s + nI v) 25600 := by rw [ei]; exact vp_in_nI (by omega) (by decide)
      have iv : vp_in (nI v) 4 := vp_in_nI (by omega) (by decide)
      have ey : z.2.1 114 (4 * nI s + nI v).toNatClampNeg = nI (pit y v) := by rw [ei, cl31 (by omega)]; exact hE.1 v (by omega)
      have ex : z.2.1 127 (nI v).toNatClampNeg = nI (pit x v) := by rw [cl31 (by omega)]; exact hN v (by omega)
      have px := (pit_lt x v).1
      have py := (pit_lt y v).1
      refine ri_go hJ [2] 90 2 rfl ?_
      refine ⟨fun c => absurd c (nI_ge (a := v) (b := 4) (by omega) (by decide)), fun _ => ⟨ii, iv, fun q => ?_, fun q => ⟨ii, iv, fun q2 => ⟨?_, rfl⟩, fun q2 => ⟨?_, rfl⟩⟩⟩⟩
      · have q : z.2.1 114 (4 * nI s + nI v).toNatClampNeg = z.2.1 127 (nI v).toNatClampNeg := q
        rw [ey, ex, nn_eq (by omega) (by omega)] at q
        have := ih (v + 1) (by omega) (fun u hu => by
          by_cases e : u = v
          · rw [e]; exact q
          · exact he u (by omega))
        rw [← e1] at this
        exact this
      · have q : ¬ z.2.1 114 (4 * nI s + nI v).toNatClampNeg = z.2.1 127 (nI v).toNatClampNeg := q
        rw [ey, ex, nn_eq (by omega) (by omega)] at q
        have q2 : z.2.1 127 (nI v).toNatClampNeg ≤ z.2.1 114 (4 * nI s + nI v).toNatClampNeg := q2
        rw [ey, ex, nn_le (by omega) (by omega)] at q2
        have := lex_lt hy hx (v := v) (by omega) (fun u hu => (he u hu).symm) (by omega)
        rw [if_neg (by omega)]
      · have q2 : ¬ z.2.1 127 (nI v).toNatClampNeg ≤ z.2.1 114 (4 * nI s + nI v).toNatClampNeg := q2
        rw [ey, ex, nn_le (by omega) (by omega)] at q2
        rw [if_pos (lex_lt hx hy (v := v) (by omega) he (by omega))]
  refine ri_run_ok hJ [2] 90 0 0 0 _ _ _ ?_
  exact loop 4 0 rfl (fun u hu => absurd hu (by omega))
/-- nothing but entry s has changed -/
def E1 (z z' : st_T) (s : Nat) : Prop := (∀ q, q < 4 * s ∨ 4 * s + 4 ≤ q → z'.2.1 114 q = z.2.1 114 q) ∧ (∀ q, ¬ q = s → z'.2.1 115 q = z.2.1 115 q ∧ z'.2.1 116 q = z.2.1 116 q) ∧ mm [] [114, 115, 116] z z'
theorem E1_EN {z z' : st_T} {T : tT} {s s' y : Nat} (h : E1 z z' s) (hne : ¬ s' = s) (he : EN z T s' y) : EN z' T s' y := by
  obtain ⟨h1, h2, _⟩ := h
  obtain ⟨a, b, c⟩ := he
  refine ⟨fun v hv => ?_, ?_, ?_⟩
  · rw [h1 _ (by omega)]; exact a v hv
  · rw [(h2 s' hne).1]; exact b
  · rw [(h2 s' hne).2]; exact c
/-- only the entries of place i have changed -/
def EP (z z' : st_T) (i : Nat) : Prop := (∀ q, q < 1600 * i ∨ 1600 * i + 1600 ≤ q → z'.2.1 114 q = z.2.1 114 q) ∧ (∀ q, q < 400 * i ∨ 400 * i + 400 ≤ q → z'.2.1 115 q = z.2.1 115 q ∧ z'.2.1 116 q = z.2.1 116 q) ∧ mm [] [114, 115, 116] z z'
theorem EP_rf (z : st_T) (i : Nat) : EP z z i := ⟨fun _ _ => rfl, fun _ _ => ⟨rfl, rfl⟩, mm_rf _ _ _⟩
theorem EP_1 {z z' z'' : st_T} {i j : Nat} (h : EP z z' i) (hj : j < 400) (h' : E1 z' z'' (400 * i + j)) : EP z z'' i := by
  refine ⟨fun q hq => ?_, fun q hq => ?_, mm_tr h.2.2 h'.2.2⟩
  · rw [h'.1 q (by omega)]; exact h.1 q hq
  · rw [(h'.2.1 q (by omega)).1, (h'.2.1 q (by omega)).2]; exact h.2.1 q hq
set_option maxHeartbeats 2000000 in
theorem e10_putState (l : Launch) (z : st_T) (T : tT) (hW : TW T) (hM : RM z T) {i x : Nat} {A B : List Nat} (hi : i < 16) (hx : x < 2 ^ 28) (hc : chd x < 13) (hN : NW z (pit x)) (hn : (A ++ B).length < 400) (hL : MS z T i (A ++ B)) (hA : ∀ y ∈ A, y < x) (hB : ∀ y ∈ B, x < y) (hb : ∀ y ∈ A ++ B, y < 2 ^ 28) : ri_Ev l y10_putState w10_putState r10_putState 0 0 [.ref 117, .int (nI i), .int (nI (A ++ B).length), .int (nI (chd x))] (st_h z) (ri_zx fun z' => MS z' T i (A ++ x :: B) ∧ EP z z' i) := by
  refine ri_ev (t10_putState l _) rfl rfl rfl (Nat.le_of_ble_eq_true rfl) rfl (z10_putState l _) (fun J hJ => ?_)
  have hlen : (A ++ B).length = A.length + B.length := List.length_append
  -- the new one is put where the hole is
  have fin : ∀ z1 : st_T, EP z z1 i → (∀ (j y : Nat), (A ++ B)[j]? = some y → (j < A.length → EN z1 T (400 * i + j) y) ∧ (A.length ≤ j → EN z1 T (400 * i + (j + 1)) y)) → ∀ o5 o6, J 70 0 0 [some (.ref 117), some (.int (nI i)), some (.int (nI (A ++ B).length)), some (.int (nI (chd x))), some (.int (nI A.length)), o5, o6] [] (st_h z1) := by
    intro z1 hE hL1 o5 o6
    have hM1 := RM_mm hM hE.2.2 (by decide) (by decide)
    have hN1 : NW z1 (pit x) := fun v hv => by rw [hE.2.2.1 127 (by decide)]; exact hN v hv
    have es : 400 * nI i + nI A.length = nI (400 * i + A.length) := by
      have h : nI 400 * nI i + nI A.length = nI (400 * i + A.length) := by rw [pk_mul, nI_add]
      exact h
    have loop : ∀ n v, n + v = 4 → ∀ z2 : st_T, (∀ u, u < v → z2.2.1 114 (4 * (400 * i + A.length) + u) = nI (pit x u)) → E1 z1 z2 (400 * i + A.length) → J 78 0 0 [some (.ref 117), some (.int (nI i)), some (.int (nI (A ++ B).length)), some (.int (nI (chd x))), some (.int (nI A.length)), some (.int (nI (400 * i + A.length))), some (.int (nI v))] [] (st_h z2) := by
      intro n
      induction n with
      | zero =>
        intro v hv z2 hv2 hE2
        have hv4 : v = 4 := by omega
        subst hv4
        have ii : vp_in (nI (400 * i + A.length)) 6400 := vp_in_nI (by omega) (by decide)
        have ci : (nI (400 * i + A.length)).toNatClampNeg = 400 * i + A.length := cl31 (by omega)
        refine ri_go hJ [] 90 78 rfl ?_
        refine ⟨fun _ => ⟨ii, ?_⟩, fun c => absurd (by decide) c⟩
        have hE3 : E1 z1 (fa z2 115 (upd (z2.2.1 115) (nI (400 * i + A.length)).toNatClampNeg (nI (chd x)))) (400 * i + A.length) := by
          refine ⟨fun q hq => ?_, fun q hq => ?_, mm_tr hE2.2.2 (mm_fa (by decide))⟩
          · rw [fa_ne _ _ (by decide)]; exact hE2.1 q hq
          · rw [fa_self, fa_ne _ _ (by decide), ci, pk_un hq]; exact hE2.2.1 q hq
        have hM3 := RM_mm hM1 hE3.2.2 (by decide) (by decide)
        have hN3 : NW (fa z2 115 (upd (z2.2.1 115) (nI (400 * i + A.length)).toNatClampNeg (nI (chd x)))) (pit x) := fun v hv => by rw [hE3.2.2.1 127 (by decide)]; exact hN1 v hv
        refine ⟨_, e10_costOfState l _ T hW hM3 (x := x) hc hN3, ?_⟩
        rintro r h' ⟨rfl, rfl⟩
        refine ⟨ii, rfl, fa (fa z2 115 (upd (z2.2.1 115) (nI (400 * i + A.length)).toNatClampNeg (nI (chd x)))) 116 (upd (z2.2.1 116) (nI (400 * i + A.length)).toNatClampNeg (nI (cst T x))), rfl, ?_⟩
        have hE4 : E1 z1 (fa (fa z2 115 (upd (z2.2.1 115) (nI (400 * i + A.length)).toNatClampNeg (nI (chd x)))) 116 (upd (z2.2.1 116) (nI (400 * i + A.length)).toNatClampNeg (nI (cst T x)))) (400 * i + A.length) := by
          refine ⟨fun q hq => ?_, fun q hq => ?_, mm_tr hE3.2.2 (mm_fa (by decide))⟩
          · rw [fa_ne _ _ (by decide)]; exact hE3.1 q hq
          · refine ⟨?_, ?_⟩
            · rw [fa_ne _ _ (by decide)]; exact (hE3.2.1 q hq).1
            · rw [fa_self, ci, pk_un hq]; exact (hE2.2.1 q hq).2
        refine ⟨fun j y hj h4 => ?_, EP_1 hE (by omega) hE4⟩
        rcases Nat.lt_trichotomy j A.length with h | h | h
        · rw [List.getElem?_append_left h] at hj
          exact E1_EN hE4 (by omega) ((hL1 j y (by rw [List.getElem?_append_left h]; exact hj)).1 h)
        · rw [List.getElem?_append_right (by omega), h, Nat.sub_self] at hj
          cases hj
          rw [h]
          refine ⟨fun v hv => ?_, ?_, ?_⟩
          · rw [fa_ne _ _ (by decide), fa_ne _ _ (by decide)]; exact hv2 v hv
          · rw [fa_ne _ _ (by decide), fa_self, ci, pk_us]
          · rw [fa_self, ci, pk_us]
        · obtain ⟨j', rfl⟩ : ∃ j', j = j' + 1 := ⟨j - 1, by omega⟩
          have hj2 : (A ++ B)[j']? = some y := by
            rw [List.getElem?_append_right (by omega)] at hj ⊢
            rw [show j' + 1 - A.length = (j' - A.length) + 1 by omega, List.getElem?_cons_succ] at hj
            exact hj
          exact E1_EN hE4 (by omega) ((hL1 j' y hj2).2 (by omega))
      | succ n ih =>
        intro v hv z2 hv2 hE2
        have e1 := nI_1 v
        have ei : 4 * nI (400 * i + A.length) + nI v = nI (4 * (400 * i + A.length) + v) := ix4d
        have iv : vp_in (nI v) 4 := vp_in_nI (by omega) (by decide)
        have ex : z2.2.1 127 (nI v).toNatClampNeg = nI (pit x v) := by rw [cl31 (by omega), hE2.2.2.1 127 (by decide)]; exact hN1 v (by omega)
        refine ri_go hJ [78] 90 78 rfl ?_
        refine ⟨fun c => absurd c (nI_ge (a := v) (b := 4) (by omega) (by decide)), fun _ => ⟨iv, ?_, ?_⟩⟩
        · show vp_in (4 * nI (400 * i + A.length) + nI v) 25600
          rw [ei]; exact vp_in_nI (by omega) (by decide)
        · have := ih (v + 1) (by omega) (fa z2 114 (upd (z2.2.1 114) (4 * (400 * i + A.length) + v) (nI (pit x v)))) (fun u hu => ?_) ⟨fun q hq => ?_, fun q hq => ?_, mm_tr hE2.2.2 (mm_fa (by decide))⟩
          · rw [← e1, show fa z2 114 (upd (z2.2.1 114) (4 * (400 * i + A.length) + v) (nI (pit x v))) = fa z2 114 (upd (z2.2.1 114) (4 * nI (400 * i + A.length) + nI v).toNatClampNeg (z2.2.1 127 (nI v).toNatClampNeg)) by rw [ei, cl31 (by omega), ex]] at this
            exact this
          · rw [fa_self]
            by_cases e : u = v
            · rw [e, pk_us]
            · rw [pk_un (by omega)]; exact hv2 u (by omega)
          · rw [fa_self, pk_un (by omega)]; exact hE2.1 q hq
          · rw [fa_ne _ _ (by decide), fa_ne _ _ (by decide)]; exact hE2.2.1 q hq
    refine ri_go hJ [78] 90 70 rfl ?_
    have := loop 4 0 rfl z1 (fun u hu => absurd hu (by omega)) ⟨fun _ _ => rfl, fun _ _ => ⟨rfl, rfl⟩, mm_rf _ _ _⟩
    rw [← es] at this
    exact this
  -- the hole goes down
  have down : ∀ k, A.length ≤ k → k ≤ (A ++ B).length → ∀ z1 : st_T, EP z z1 i → (∀ (j y : Nat), (A ++ B)[j]? = some y → (j < k → EN z1 T (400 * i + j) y) ∧ (k ≤ j → EN z1 T (400 * i + (j + 1)) y)) → ∀ o5 o6, J 2 0 0 [some (.ref 117), some (.int (nI i)), some (.int (nI (A ++ B).length)), some (.int (nI (chd x))), some (.int (nI k)), o5, o6] [] (st_h z1) := by
    intro k
    induction k with
    | zero =>
      intro hk1 hk2 z1 hE hL1 o5 o6
      have hA0 : A.length = 0 := by omega
      refine ri_go hJ [70] 90 2 rfl ?_
      refine ⟨fun _ => ?_, fun c => absurd (by decide) c⟩
      have := fin z1 hE (fun j y hj => by rw [hA0]; exact hL1 j y hj) o5 o6
      rw [hA0] at this
      exact this
    | succ k ih =>
      intro hk1 hk2 z1 hE hL1 o5 o6
      have hN1 : NW z1 (pit x) := fun v hv => by rw [hE.2.2.1 127 (by decide)]; exact hN v hv
      obtain ⟨y, hy⟩ : ∃ y, (A ++ B)[k]? = some y := ⟨_, List.getElem?_eq_getElem (by omega)⟩
      have hyE := (hL1 k y hy).1 (by omega)
      have hyb := hb y (List.mem_of_getElem? hy)
      have es : 400 * nI i + nI (k + 1) - 1 = nI (400 * i + k) := by
        have h : nI 400 * nI i + nI (k + 1) = nI (400 * i + k + 1) := by rw [pk_mul, nI_add]; rfl
        show nI 400 * nI i + nI (k + 1) - 1 = _
        rw [h, nI_pred]
      have eo := e10_orderTo l z1 (s := 400 * i + k) (x := x) (y := y) (by omega) hx hyb ⟨hyE.1, hyE.2.1⟩ hN1
      rw [← es] at eo
      refine ri_go hJ [70, 23] 90 2 rfl ?_
      refine ⟨fun c => absurd (show nI (k + 1) ≤ nI 0 from c) (by rw [nn_le (by omega) (by decide)]; omega), fun _ => ⟨_, eo, ?_⟩⟩
      rintro r h' ⟨rfl, rfl⟩
      refine ⟨fun q => ?_, fun q => ?_⟩
      · have q : (if y < x then (-1 : Int32) else 1) ≤ 0 := q
        have hyx : y < x := Decidable.byContradiction (fun h => by rw [if_neg h] at q; exact absurd q (by decide))
        have hkA : k + 1 = A.length := by
          rcases Nat.lt_or_ge k A.length with h | h
          · omega
          · rw [List.getElem?_append_right h] at hy
            have := hB y (List.mem_of_getElem? hy)
            omega
        have := fin z1 hE (fun j y hj => by rw [← hkA]; exact hL1 j y hj) o5 o6
        rw [← hkA] at this
        exact this
      · have q : ¬ (if y < x then (-1 : Int32) else 1) ≤ 0 := q
        have hyx : ¬ y < x := fun h => q (by rw [if_pos h]; decide)
        have hkA : A.length ≤ k := by
          rcases Nat.lt_or_ge k A.length with h | h
          · rw [List.getElem?_append_left h] at hy
            exact absurd (hA y (List.mem_of_getElem? hy)) hyx
          · exact h
        -- entry k goes to entry k + 1
        have ef : nI (400 * i + k) + 1 = nI (400 * i + (k + 1)) := nI_1 _
        have mv : ∀ n v, n + v = 4 → ∀ z2 : st_T, (∀ u, u < v → z2.2.1 114 (4 * (400 * i + (k + 1)) + u) = nI (pit y u)) → E1 z1 z2 (400 * i + (k + 1)) → J 25 0 0 [some (.ref 117), some (.int (nI i)), some (.int (nI (A ++ B).length)), some (.int (nI (chd x))), some (.int (nI (k + 1))), some (.int (nI (400 * i + k))), some (.int (nI v))] [] (st_h z2) := by
          intro n
          induction n with
          | zero =>
            intro v hv z2 hv2 hE2
            have hv4 : v = 4 := by omega
            subst hv4
            have i0 : vp_in (nI (400 * i + k)) 6400 := vp_in_nI (by omega) (by decide)
            have i1 : vp_in (nI (400 * i + k) + 1) 6400 := by rw [ef]; exact vp_in_nI (by omega) (by decide)
            have c0 : (nI (400 * i + k)).toNatClampNeg = 400 * i + k := cl31 (by omega)
            have c1 : (nI (400 * i + k) + 1).toNatClampNeg = 400 * i + (k + 1) := by rw [ef]; exact cl31 (by omega)
            have hyE2 := E1_EN hE2 (s' := 400 * i + k) (by omega) hyE
            refine ri_go hJ [2] 90 25 rfl ?_
            refine ⟨fun _ => ⟨i0, i1, i0, i1, ?_⟩, fun c => absurd (by decide) c⟩
            have hE4 : E1 z1 (fa (fa z2 115 (upd (z2.2.1 115) (400 * i + (k + 1)) (z2.2.1 115 (400 * i + k)))) 116 (upd (z2.2.1 116) (400 * i + (k + 1)) (z2.2.1 116 (400 * i + k)))) (400 * i + (k + 1)) := by
              refine ⟨fun q hq => ?_, fun q hq => ?_, mm_tr hE2.2.2 (mm_tr (mm_fa (by decide)) (mm_fa (by decide)))⟩
              · rw [fa_ne _ _ (by decide), fa_ne _ _ (by decide)]; exact hE2.1 q hq
              · rw [fa_ne _ _ (by decide), fa_self, fa_self, pk_un hq, pk_un hq]; exact hE2.2.1 q hq
            have := ih hkA (by omega) _ (EP_1 hE (by omega) hE4) (fun j y' hj => ⟨fun hjk => E1_EN hE4 (by omega) ((hL1 j y' hj).1 (by omega)), fun hjk => ?_⟩) (some (.int (nI (400 * i + k)))) (some (.int (nI 4)))
            · rw [show nI k = nI (k + 1) + (-1) from (pk_m1 k).symm] at this
              rw [show fa (fa z2 115 (upd (z2.2.1 115) (400 * i + (k + 1)) (z2.2.1 115 (400 * i + k)))) 116 (upd (z2.2.1 116) (400 * i + (k + 1)) (z2.2.1 116 (400 * i + k))) = fa (fa z2 115 (upd (z2.2.1 115) (nI (400 * i + k) + 1).toNatClampNeg (z2.2.1 115 (nI (400 * i + k)).toNatClampNeg))) 116 (upd (z2.2.1 116) (nI (400 * i + k) + 1).toNatClampNeg (z2.2.1 116 (nI (400 * i + k)).toNatClampNeg)) by rw [c0, c1]] at this
              exact this
            · rcases Nat.eq_or_lt_of_le hjk with e | e
              · subst e
                rw [hy] at hj
                cases hj
                refine ⟨fun v hv => ?_, ?_, ?_⟩
                · rw [fa_ne _ _ (by decide), fa_ne _ _ (by decide)]; exact hv2 v hv
                · rw [fa_ne _ _ (by decide), fa_self, pk_us]; exact hyE2.2.1
                · rw [fa_self, pk_us]; exact hyE2.2.2
              · exact E1_EN hE4 (by omega) ((hL1 j y' hj).2 (by omega))
          | succ n ihn =>
            intro v hv z2 hv2 hE2
            have e1 := nI_1 v
            have g0 : 4 * nI (400 * i + k) + nI v = nI (4 * (400 * i + k) + v) := ix4d
            have g1 : 4 * (nI (400 * i + k) + 1) + nI v = nI (4 * (400 * i + (k + 1)) + v) := by rw [ef]; exact ix4d
            have hyE2 := E1_EN hE2 (s' := 400 * i + k) (by omega) hyE
            have ey : z2.2.1 114 (4 * nI (400 * i + k) + nI v).toNatClampNeg = nI (pit y v) := by rw [g0, cl31 (by omega)]; exact hyE2.1 v (by omega)
            refine ri_go hJ [25] 90 25 rfl ?_
            refine ⟨fun c => absurd c (nI_ge (a := v) (b := 4) (by omega) (by decide)), fun _ => ⟨?_, ?_, ?_⟩⟩
            · show vp_in (4 * nI (400 * i + k) + nI v) 25600
              rw [g0]; exact vp_in_nI (by omega) (by decide)
            · show vp_in (4 * (nI (400 * i + k) + 1) + nI v) 25600
              rw [g1]; exact vp_in_nI (by omega) (by decide)
            · have := ihn (v + 1) (by omega) (fa z2 114 (upd (z2.2.1 114) (4 * (400 * i + (k + 1)) + v) (nI (pit y v)))) (fun u hu => ?_) ⟨fun q hq => ?_, fun q hq => ?_, mm_tr hE2.2.2 (mm_fa (by decide))⟩
              · rw [← e1, show fa z2 114 (upd (z2.2.1 114) (4 * (400 * i + (k + 1)) + v) (nI (pit y v))) = fa z2 114 (upd (z2.2.1 114) (4 * (nI (400 * i + k) + 1) + nI v).toNatClampNeg (z2.2.1 114 (4 * nI (400 * i + k) + nI v).toNatClampNeg)) by rw [ey, g1, cl31 (by omega)]] at this
                exact this
              · rw [fa_self]
                by_cases e : u = v
                · rw [e, pk_us]
                · rw [pk_un (by omega)]; exact hv2 u (by omega)
              · rw [fa_self, pk_un (by omega)]; exact hE2.1 q hq
              · rw [fa_ne _ _ (by decide), fa_ne _ _ (by decide)]; exact hE2.2.1 q hq
        have k23 : ∀ o6, J 23 0 0 [some (.ref 117), some (.int (nI i)), some (.int (nI (A ++ B).length)), some (.int (nI (chd x))), some (.int (nI (k + 1))), some (.int (nI (400 * i + k))), o6] [] (st_h z1) := by
          intro o6
          refine ri_go hJ [25] 90 23 rfl ?_
          exact mv 4 0 rfl z1 (fun u hu => absurd hu (by omega)) ⟨fun _ _ => rfl, fun _ _ => ⟨rfl, rfl⟩, mm_rf _ _ _⟩
        have := k23 o6
        rw [← es] at this
        exact this
  refine ri_run_ok hJ [2] 90 0 0 0 _ _ _ ?_
  exact down (A ++ B).length (by omega) (Nat.le_refl _) z (EP_rf _ _) (fun j y hj => ⟨fun h => hL j y hj (by omega), fun h => absurd (List.getElem?_eq_some_iff.mp hj).1 (by omega)⟩) none none
