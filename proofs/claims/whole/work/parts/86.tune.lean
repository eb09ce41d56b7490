/-! Harmony.tune, over every heap that begins as ours does -/
def hv (x0 : ri_C) (z : st_T) (r : List ri_C) : List ri_C := x0 :: .inr (0, [.int (z.1 1 0), .int (z.1 1 1), .ref 18, .ref 19, .ref 20, .ref 21, .ref 22, .ref 23, .ref 24]) :: .inl (0, 64, .inl (z.2.1 2)) :: .inl (0, 16, .inl (z.2.1 3)) :: .inl (0, 16, .inl (z.2.1 4)) :: .inl (1, 16, .inl (z.2.1 5)) :: .inl (0, 9, .inl (z.2.1 6)) :: .inl (0, 4, .inl (z.2.1 7)) :: .inl (0, 4, .inl (z.2.1 8)) :: .inr (1, [.int (z.1 9 0), .int (z.1 9 1), .int (z.1 9 2), .ref 26, .ref 27, .ref 28, .ref 29]) :: .inl (0, 64, .inl (z.2.1 10)) :: .inl (0, 48, .inl (z.2.1 11)) :: .inl (0, 12, .inl (z.2.1 12)) :: .inl (0, 256, .inl (z.2.1 13)) :: r
theorem st_hv (z : st_T) : st_h z = hv ((st_h z).headD (.inr (0, []))) z ((st_h z).drop 14) := rfl
theorem e15_fillH (l : Launch) {q N : Nat} {f : Nat → Int32} {h : List ri_C} (hN : N < 2 ^ 31) (hq : Nat.ble 16 q = true) (hat : h[q - 16]? = some (.inl (0, N, .inl f))) (x : Int32) : ri_Ev l y15_fill w15_fill r15_fill 0 0 [.ref q, .int x] h (fun r h' => r = none ∧ ∃ g : Nat → Int32, (∀ j, j < N → g j = x) ∧ h' = h.set (q - 16) (.inl (0, N, .inl g))) := by
  refine ri_ev (t15_fill l _) rfl rfl rfl (Nat.le_of_ble_eq_true rfl) rfl (z15_fill l _) (fun J hJ => ?_)
  have hlt : q - 16 < h.length := (List.getElem?_eq_some_iff.mp hat).1
  have hat2 : ∀ g, ri_at (h.set (q - 16) (.inl (0, N, .inl g))) q = some (.inl (0, N, .inl g)) := fun g => by rw [ri_at_hi hq, List.getElem?_set_self hlt]
  have loop : ∀ n j, n + j = N → ∀ g : Nat → Int32, (∀ i, i < j → g i = x) → J 5 0 0 [some (.ref q), some (.int x), some (.int (nI j)), some (.int (nI N))] [] (h.set (q - 16) (.inl (0, N, .inl g))) := by
    intro n
    induction n with
    | zero =>
      intro j hj g hg
      refine ri_go hJ [] 60 5 rfl ?_
      exact ⟨fun _ => ⟨rfl, g, fun i hi => hg i (by omega), rfl⟩, fun c => absurd (nI_le (by omega) (by omega)) c⟩
    | succ n ih =>
      intro j hj g hg
      have e1 := nI_1 j
      have k12 : J 12 0 0 [some (.ref q), some (.int x), some (.int (nI j)), some (.int (nI N))] [] (h.set (q - 16) (.inl (0, N, .inl (upd g j x)))) := by
        refine ri_go hJ [5] 60 12 rfl ?_
        have := ih (j + 1) (by omega) (upd g j x) (fun i hi => by
          by_cases e : i = j
          · rw [e, pk_us]
          · rw [pk_un e]; exact hg i (by omega))
        rw [← e1] at this
        exact this
      have k11 : J 11 0 0 [some (.ref q), some (.int x), some (.int (nI j)), some (.int (nI N))] [.int x, .int (nI j), .ref q] (h.set (q - 16) (.inl (0, N, .inl g))) := by
        refine ri_go hJ [] 0 11 rfl ?_
        unfold i_ast
        simp only [hat2 g, cl31 (show j < 2 ^ 31 by omega), hq, List.set_set]
        exact ⟨vp_in_nI (by omega) hN, k12⟩
      refine ri_go hJ [11] 60 5 rfl ?_
      exact ⟨fun c => absurd c (nI_ge (by omega) (by omega)), fun _ => k11⟩
  have hself : h = h.set (q - 16) (.inl (0, N, .inl f)) := by
    apply List.ext_getElem?
    intro i
    rw [List.getElem?_set]
    by_cases hi : q - 16 = i
    · subst hi; rw [hat]; simp [hlt]
    · simp [hi]
  have k4 : J 4 0 0 [some (.ref q), some (.int x), some (.int (nI 0)), none] [.int (nI N)] h := by
    refine ri_go hJ [5] 60 4 rfl ?_
    have := loop N 0 (Nat.add_zero _) f (fun i hi => absurd hi (by omega))
    rw [← hself] at this
    exact this
  have k3 : J 3 0 0 [some (.ref q), some (.int x), some (.int (nI 0)), none] [.ref q] h := by
    refine ri_go hJ [] 0 3 rfl ?_
    unfold i_alen
    simp only [ri_at_hi hq, hat]
    exact k4
  refine ri_run_ok hJ [3] 60 0 0 0 _ _ _ ?_
  exact k3
def q12 (T : tT) (C K p c : Nat) : Bool := (decide (c < C) && decide (tmof T c p < 4)) || (c == C && anf (fun k => tmem T C k == p) K 0)
def q11 (T : tT) (C K k p c : Nat) : Bool := (decide (c < C) || (c == C && decide (k < K))) && tmem T c k == p
/-- the pairs (chord, member) before (C, K) are done -/
def TI (z : st_T) (T : tT) (C K : Nat) : Prop := (∀ c k, (c < C ∨ (c = C ∧ k < K)) → c < 13 → k < 4 → z.2.1 10 (4 * c + k) = n9 (tmem T c k)) ∧ (∀ k p, k < 4 → p < 12 → z.2.1 11 (12 * k + p) = nI (msk (q11 T C K k p) 13)) ∧ (∀ p, p < 12 → z.2.1 12 p = nI (msk (q12 T C K p) 13))
theorem anf_snoc {P : Nat → Bool} : ∀ {n v : Nat}, anf P (n + 1) v = (anf P n v || P (v + n))
  | 0, v => by
    show (P v || false) = (false || P (v + 0))
    rw [Bool.or_false, Bool.false_or, Nat.add_zero]
  | n + 1, v => by
    show (P v || anf P (n + 1) (v + 1)) = ((P v || anf P n (v + 1)) || P (v + (n + 1)))
    rw [anf_snoc (n := n) (v := v + 1), Bool.or_assoc, show v + 1 + n = v + (n + 1) by omega]
theorem tdeg_J : ∀ i, i < 52 → st_MAJOR.getD (nI i).toNatClampNeg 0 = n9 (mJ.getD i 99) := by decide +kernel
theorem tdeg_N : ∀ i, i < 52 → st_MINOR.getD (nI i).toNatClampNeg 0 = n9 (mN.getD i 99) := by decide +kernel
/-- elsewhere nothing changed but in the chords' tables -/
def md3 : List Nat := [10, 11, 12]
theorem TI_skip {z z' : st_T} {T : tT} {C K : Nat} (h : TI z T C K) (hk : tmem T C K = 99) (hK : K < 4) (h10 : z'.2.1 10 = upd (z.2.1 10) (4 * C + K) (-2)) (h11 : z'.2.1 11 = z.2.1 11) (h12 : z'.2.1 12 = z.2.1 12) : TI z' T C (K + 1) := by
  obtain ⟨a, b, c⟩ := h
  refine ⟨fun c k hc h13 h4 => ?_, fun k p hk4 hp => ?_, fun p hp => ?_⟩
  · rw [h10]
    by_cases q : 4 * c + k = 4 * C + K
    · rw [q, pk_us, show c = C by omega, show k = K by omega, hk]; rfl
    · rw [pk_un q]; exact a c k (by omega) h13 h4
  · rw [h11, b k p hk4 hp]
    congr 1
    refine msk_cong (fun c hc => ?_)
    unfold q11
    by_cases e : c = C
    · subst e
      by_cases e2 : k = K
      · subst e2
        rw [hk, show (99 == p) = false from ne_b (by omega), Bool.and_false, Bool.and_false]
      · rw [show decide (k < K + 1) = decide (k < K) from decide_eq_decide.mpr (by omega)]
    · rw [ne_b e]; rfl
  · rw [h12, c p hp]
    congr 1
    refine msk_cong (fun c hc => ?_)
    unfold q12
    rw [anf_snoc, Nat.zero_add, hk, show (99 == p) = false from ne_b (by omega), Bool.or_false]
theorem TI_put {z z' : st_T} {T : tT} {C K m : Nat} (h : TI z T C K) (hk : tmem T C K = m) (hm : m < 12) (hK : K < 4) (hC : C < 13) (h10 : z'.2.1 10 = upd (z.2.1 10) (4 * C + K) (nI m)) (h11 : z'.2.1 11 = upd (z.2.1 11) (12 * K + m) (z.2.1 11 (12 * K + m) ||| nI (2 ^ C))) (h12 : z'.2.1 12 = upd (z.2.1 12) m (z.2.1 12 m ||| nI (2 ^ C))) : TI z' T C (K + 1) := by
  obtain ⟨a, b, c⟩ := h
  refine ⟨fun c k hc h13 h4 => ?_, fun k p hk4 hp => ?_, fun p hp => ?_⟩
  · rw [h10]
    by_cases q : 4 * c + k = 4 * C + K
    · rw [q, pk_us, show c = C by omega, show k = K by omega, hk]
      unfold n9; rw [if_neg (by omega)]
    · rw [pk_un q]; exact a c k (by omega) h13 h4
  · rw [h11]
    by_cases q : 12 * k + p = 12 * K + m
    · have e1 : k = K := by omega
      have e2 : p = m := by omega
      subst e1 e2
      rw [pk_us, b k p hk4 hp, msk_or1 _ hC]
      congr 1
      refine msk_cong (fun c hc => ?_)
      unfold q11
      by_cases e : c = C
      · subst e
        rw [hk, eq_b rfl, decide_eq_true (Nat.lt_succ_self k)]; simp
      · rw [ne_b e]; simp
    · rw [pk_un q, b k p hk4 hp]
      congr 1
      refine msk_cong (fun c hc => ?_)
      unfold q11
      by_cases e : c = C
      · subst e
        by_cases e2 : k = K
        · subst e2
          rw [hk, show (m == p) = false from ne_b (by omega), Bool.and_false, Bool.and_false]
        · rw [show decide (k < K + 1) = decide (k < K) from decide_eq_decide.mpr (by omega)]
      · rw [ne_b e]; rfl
  · rw [h12]
    by_cases q : p = m
    · subst q
      rw [pk_us, c p hp, msk_or1 _ hC]
      congr 1
      refine msk_cong (fun c hc => ?_)
      unfold q12
      rw [anf_snoc, Nat.zero_add, hk, eq_b rfl, Bool.or_true, Bool.and_true]
      cases c == C <;> simp
    · rw [pk_un q, c p hp]
      congr 1
      refine msk_cong (fun c hc => ?_)
      unfold q12
      rw [anf_snoc, Nat.zero_add, hk, show (m == p) = false from ne_b (fun e => q e.symm), Bool.or_false]
theorem ri_hz {Q : st_T → Prop} (x0 : ri_C) (r : List ri_C) : (fun (a : Option Value) (h' : List ri_C) => a = none ∧ ∃ z', h' = hv x0 z' r ∧ Q z') = (fun a h' => a = none ∧ ∃ z', h' = hv x0 z' r ∧ Q z') := rfl
def ri_hx (x0 : ri_C) (r : List ri_C) (Q : st_T → Prop) : ri_O := fun a h' => a = none ∧ ∃ z', h' = hv x0 z' r ∧ Q z'
set_option maxHeartbeats 1000000 in
theorem e1_tuneMember (l : Launch) (x0 : ri_C) (r : List ri_C) (z : st_T) (T : tT) (h0 : T 8 0 < 12) (h1 : T 8 1 ≤ 1) (z0 : z.1 9 0 = nI (T 8 0)) (z1 : z.1 9 1 = nI (T 8 1)) {C K : Nat} (hC : C < 13) (hK : K < 4) (hI : TI z T C K) : ri_Ev l y1_tuneMember w1_tuneMember r1_tuneMember 0 0 [.ref 25, .int (nI C), .int (nI K)] (hv x0 z r) (ri_hx x0 r fun z' => TI z' T C (K + 1) ∧ md md3 z z') := by
  refine ri_ev (t1_tuneMember l _) rfl rfl rfl (Nat.le_of_ble_eq_true rfl) rfl (z1_tuneMember l _) (fun J hJ => ?_)
  have hat : nI C * 4 + nI K = nI (4 * C + K) := ix4
  have htd := tdeg_lt T C K
  have k17 : J 17 0 0 [some (.ref 25), some (.int (nI C)), some (.int (nI K)), some (.int (nI (4 * C + K))), none, none] [.int (n9 (tdeg T C K))] (hv x0 z r) := by
    refine ri_go hJ [] 90 17 rfl ?_
    refine ⟨fun c => ?_, fun c => ⟨vp_in_nI (by omega) (by decide), ?_⟩⟩
    · have c : ¬ n9 (tdeg T C K) = -2 := c
      rw [n9_none htd] at c
      have hlt : tdeg T C K < 12 := by omega
      have e9 : n9 (tdeg T C K) = nI (tdeg T C K) := if_neg c
      have epc : z.1 9 0 + n9 (tdeg T C K) - (z.1 9 0 + n9 (tdeg T C K)) / 12 * 12 = nI ((T 8 0 + tdeg T C K) % 12) := by
        rw [z0, e9, nI_add]; exact rem12 (by omega)
      have hm : (T 8 0 + tdeg T C K) % 12 < 12 := Nat.mod_lt _ (by decide)
      have et : tmem T C K = (T 8 0 + tdeg T C K) % 12 := by unfold tmem; rw [if_neg c]
      refine ⟨by decide, ?_⟩
      show vp_in (nI (4 * C + K)) 64 ∧ _
      refine ⟨vp_in_nI (by omega) (by decide), ?_⟩
      have hw11 : nI K * 12 + (z.1 9 0 + n9 (tdeg T C K) - (z.1 9 0 + n9 (tdeg T C K)) / 12 * 12) = nI (12 * K + (T 8 0 + tdeg T C K) % 12) := by rw [epc]; exact ix12
      have v11 : vp_in (nI K * 12 + (z.1 9 0 + n9 (tdeg T C K) - (z.1 9 0 + n9 (tdeg T C K)) / 12 * 12)) 48 := by rw [hw11]; exact vp_in_nI (by omega) (by decide)
      have v12 : vp_in (z.1 9 0 + n9 (tdeg T C K) - (z.1 9 0 + n9 (tdeg T C K)) / 12 * 12) 12 := by rw [epc]; exact vp_in_nI hm (by decide)
      refine ⟨v11, v11, v12, v12, rfl, fa (fa (fa z 10 (upd (z.2.1 10) (nI (4 * C + K)).toNatClampNeg (z.1 9 0 + n9 (tdeg T C K) - (z.1 9 0 + n9 (tdeg T C K)) / 12 * 12))) 11 (upd (z.2.1 11) (nI K * 12 + (z.1 9 0 + n9 (tdeg T C K) - (z.1 9 0 + n9 (tdeg T C K)) / 12 * 12)).toNatClampNeg (z.2.1 11 (nI K * 12 + (z.1 9 0 + n9 (tdeg T C K) - (z.1 9 0 + n9 (tdeg T C K)) / 12 * 12)).toNatClampNeg ||| ((1 : Int32) <<< (nI C &&& 31))))) 12 (upd (z.2.1 12) (z.1 9 0 + n9 (tdeg T C K) - (z.1 9 0 + n9 (tdeg T C K)) / 12 * 12).toNatClampNeg (z.2.1 12 (z.1 9 0 + n9 (tdeg T C K) - (z.1 9 0 + n9 (tdeg T C K)) / 12 * 12).toNatClampNeg ||| ((1 : Int32) <<< (nI C &&& 31)))), rfl, TI_put hI et hm hK hC ?_ ?_ ?_, md_tr (md_fa (by decide)) (md_tr (md_fa (by decide)) (md_fa (by decide)))⟩
      · rw [fa_ne _ _ (by decide), fa_ne _ _ (by decide), fa_self, epc, cl31 (by omega)]
      · rw [fa_ne _ _ (by decide), fa_self, hw11, cl31 (by omega), bit_shl (by omega)]
      · rw [fa_self, epc, cl31 (by omega), bit_shl (by omega)]
    · have c : n9 (tdeg T C K) = -2 := Decidable.not_not.mp c
      rw [n9_none htd] at c
      refine ⟨rfl, fa z 10 (upd (z.2.1 10) (nI (4 * C + K)).toNatClampNeg (-2)), rfl, TI_skip hI (by unfold tmem; rw [if_pos c]) hK ?_ ?_ ?_, md_fa (by decide)⟩
      · rw [fa_self, cl31 (by omega)]
      · rw [fa_ne _ _ (by decide)]
      · rw [fa_ne _ _ (by decide)]
  refine ri_run_ok hJ [17] 90 0 0 0 _ _ _ ?_
  refine ⟨fun c => ⟨?_, ?_⟩, fun c => ⟨?_, ?_⟩⟩
  · show vp_in (nI C * 4 + nI K) 52
    rw [hat]; exact vp_in_nI (by omega) (by decide)
  · have c : ¬ z.1 9 1 = 1 := c
    rw [z1, nk_eq (k := 1) (b := 1) rfl (by omega) (by decide)] at c
    have e : st_MAJOR.getD (nI (4 * C + K)).toNatClampNeg 0 = n9 (tdeg T C K) := by rw [tdeg_J _ (by omega)]; unfold tdeg; rw [if_neg c]
    rw [← e, ← hat] at k17
    exact k17
  · show vp_in (nI C * 4 + nI K) 52
    rw [hat]; exact vp_in_nI (by omega) (by decide)
  · have c : z.1 9 1 = 1 := Decidable.not_not.mp c
    rw [z1, nk_eq (k := 1) (b := 1) rfl (by omega) (by decide)] at c
    have e : st_MINOR.getD (nI (4 * C + K)).toNatClampNeg 0 = n9 (tdeg T C K) := by rw [tdeg_N _ (by omega)]; unfold tdeg; rw [if_pos c]
    rw [← e, ← hat] at k17
    exact k17
