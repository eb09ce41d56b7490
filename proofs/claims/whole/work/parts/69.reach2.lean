/-! Reach: markReached, firstUnreached -/
def MX (z : st_T) (T : tT) (i : Nat) : Prop := ∀ s x, (stL T i)[s]? = some x → z.2.1 (25 + 3 * i) s = zb (come T i x)
theorem zb_and (b : Bool) : zb b &&& 1 = zb b := by cases b <;> decide
theorem MX_MK {z : st_T} {T : tT} {i : Nat} (h : MX z T i) : MK z T i := fun s x hx => by rw [h s x hx, zb_and]
/-- what isEntered asks of the place before -/
def PB (z : st_T) (T : tT) (i : Nat) : Prop := ∀ j, i = j + 1 → LY z (23 + 3 * j) (stL T j) ∧ (stL T j).length ≤ 400 ∧ MK z T j
theorem e6_isEntA (l : Launch) (z : st_T) (T : tT) (hR : RH z T) {i y : Nat} (hi : i < 16) (hy : CK y) (hP : PB z T i) : ri_Ev l y6_isEntered w6_isEntered r6_isEntered 0 0 [.ref 87, .int (nI i), .int (nI y)] (st_h z) (ri_zi (zb (come T i y)) fun z' => md sc3 z z') := by
  match i, hi, hP with
  | 0, _, _ => exact e6_isEntered0 l z _
  | j + 1, hi, hP =>
    obtain ⟨h1, h2, h3⟩ := hP j rfl
    exact e6_isEntered l z T hR hi hy h1 h2 h3
theorem PB_md {z z' : st_T} {T : tT} {i : Nat} {ps : List Nat} (h : PB z T i) (hm : md ps z z') (hi : i < 16) (hd : ∀ p ∈ ps, p ≤ 20 ∨ 25 + 3 * i ≤ p) : PB z' T i := by
  intro j hj
  obtain ⟨h1, h2, h3⟩ := h j hj
  refine ⟨LY_md h1 hm (fun q => ?_) (fun q => ?_), h2, fun s x hx => ?_⟩
  · have := hd _ q; omega
  · have := hd _ q; omega
  · rw [md_F hm (fun q => ?_)]
    · exact h3 s x hx
    · have := hd _ q; omega
theorem zb_or (a b : Bool) : zb a ||| zb b = zb (a || b) := by cases a <;> cases b <;> decide
theorem e6_markReached (l : Launch) (z : st_T) (T : tT) (hR : RH z T) {i : Nat} (hi : i < 16) (hB : LY z (23 + 3 * i) (stL T i)) (h4 : (stL T i).length ≤ 400) (hP : PB z T i) : ri_Ev l y6_markReached w6_markReached r6_markReached 0 0 [.ref 87, .int (nI i)] (st_h z) (ri_zi (zb ((stL T i).any (come T i))) fun z' => MX z' T i ∧ md [25 + 3 * i, 18, 19, 20] z z') := by
  refine ri_ev (t6_markReached l _) rfl rfl rfl (Nat.le_of_ble_eq_true rfl) rfl (z6_markReached l _) (fun J hJ => ?_)
  have hp := lyP_of hi
  have hmH : ∀ q ∈ [25 + 3 * i, 18, 19, 20], q < 9 ∨ 13 < q := by
    intro q hq
    simp only [List.mem_cons, List.not_mem_nil, or_false] at hq
    omega
  have hmP : ∀ q ∈ [25 + 3 * i, 18, 19, 20], q ≤ 20 ∨ 25 + 3 * i ≤ q := by
    intro q hq
    simp only [List.mem_cons, List.not_mem_nil, or_false] at hq
    omega
  have hsub : ∀ q ∈ sc3, q ∈ [25 + 3 * i, 18, 19, 20] := by simp [sc3]
  have loop : ∀ n s, n + s = (stL T i).length → ∀ (b : Bool), (stL T i).any (come T i) = (b || ((stL T i).drop s).any (come T i)) → ∀ z1, (∀ s' x, s' < s → (stL T i)[s']? = some x → z1.2.1 (25 + 3 * i) s' = zb (come T i x)) → md [25 + 3 * i, 18, 19, 20] z z1 → ∀ o, J 10 0 0 [some (.ref 87), some (.int (nI i)), some (.ref (16 + (23 + 3 * i))), some (.int (zb b)), some (.int (nI s)), o] [] (st_h z1) := by
    intro n
    induction n with
    | zero =>
      intro s hs b e z1 hX hm o
      have hB1 := LY_md hB hm (by simp; omega) (by simp; omega)
      have k13 : J 13 0 0 [some (.ref 87), some (.int (nI i)), some (.ref (16 + (23 + 3 * i))), some (.int (zb b)), some (.int (nI s)), o] [.int (nI (stL T i).length), .int (nI s)] (st_h z1) := by
        refine ri_go hJ [] 90 13 rfl ?_
        refine ⟨fun _ => ⟨zb_ok b, ?_, z1, rfl, fun s' x hx => hX s' x ?_ hx, hm⟩, fun c => absurd (nI_le (by omega) (by omega)) c⟩
        · rw [e, List.drop_of_length_le (by omega), List.any_nil, Bool.or_false]
        · have := (List.getElem?_eq_some_iff.mp hx).1; omega
      refine ri_go hJ [12] 90 10 rfl ?_
      exact J_lcall hJ (as := []) (rest := [.int (nI s)]) rfl (ly_obj hp z1) (e5_keptN l z1 hp hB1 h4) rfl rfl rfl rfl (fun r h' hr => by obtain ⟨rfl, rfl⟩ := hr; exact k13)
    | succ n ih =>
      intro s hs b e z1 hX hm o
      have e1 := nI_1 s
      have hB1 := LY_md hB hm (by simp; omega) (by simp; omega)
      obtain ⟨x, hx⟩ : ∃ x, (stL T i)[s]? = some x := ⟨_, List.getElem?_eq_getElem (by omega)⟩
      have hok := okS_CK (stL_at hx)
      have hR1 := RH_md hR hm hmH
      have hP1 := PB_md hP hm hi hmP
      have hcd : z1.2.1 (23 + 3 * i + 1) s = nI x := hB1.2 s x hx (by omega)
      rw [drop_cons hx, List.any_cons] at e
      -- behind the mark
      have k31 : ∀ z2, (∀ s' x, s' < s + 1 → (stL T i)[s']? = some x → z2.2.1 (25 + 3 * i) s' = zb (come T i x)) → md [25 + 3 * i, 18, 19, 20] z z2 → J 31 0 0 [some (.ref 87), some (.int (nI i)), some (.ref (16 + (23 + 3 * i))), some (.int (zb b)), some (.int (nI s)), some (.int (zb (come T i x)))] [] (st_h z2) := by
        intro z2 hX2 hm2
        refine ri_go hJ [10] 90 31 rfl ?_
        have := ih (s + 1) (by omega) (b || come T i x) (by rw [e, Bool.or_assoc]) z2 hX2 hm2 (some (.int (zb (come T i x))))
        rw [← e1, ← zb_or] at this
        exact this
      have k30 : ∀ z2, (∀ s' x, s' < s → (stL T i)[s']? = some x → z2.2.1 (25 + 3 * i) s' = zb (come T i x)) → md [25 + 3 * i, 18, 19, 20] z z2 → J 30 0 0 [some (.ref 87), some (.int (nI i)), some (.ref (16 + (23 + 3 * i))), some (.int (zb b)), some (.int (nI s)), some (.int (zb (come T i x)))] [.int (zb (come T i x)), .int (nI s), .ref (18 + (23 + 3 * i))] (st_h z2) := by
        intro z2 hX2 hm2
        refine J_setm hJ rfl hp (by omega) ?_
        rw [show 23 + 3 * i + 2 = 25 + 3 * i by omega]
        refine k31 _ (fun s' y hs' hy => ?_) (md_tr hm2 (md_fa (by simp)))
        rw [fa_self]
        by_cases hss : s' = s
        · subst hss
          rw [hx] at hy
          cases hy
          exact pk_us
        · rw [pk_un hss]
          exact hX2 s' y (by omega) hy
      have k24 : ∀ z2, (∀ s' x, s' < s → (stL T i)[s']? = some x → z2.2.1 (25 + 3 * i) s' = zb (come T i x)) → md [25 + 3 * i, 18, 19, 20] z z2 → J 24 0 0 [some (.ref 87), some (.int (nI i)), some (.ref (16 + (23 + 3 * i))), some (.int (zb b)), some (.int (nI s)), some (.int (zb (come T i x)))] [.ref (18 + (23 + 3 * i))] (st_h z2) := by
        intro z2 hX2 hm2
        have h30 := k30 z2 hX2 hm2
        refine ri_go hJ [30] 90 24 rfl ?_
        cases hc : come T i x with
        | true =>
          rw [hc] at h30
          exact ⟨fun c => absurd c (by decide), fun _ => h30⟩
        | false =>
          rw [hc] at h30
          exact ⟨fun _ => h30, fun c => absurd rfl c⟩
      have k20 : J 20 0 0 [some (.ref 87), some (.int (nI i)), some (.ref (16 + (23 + 3 * i))), some (.int (zb b)), some (.int (nI s)), o] [.int (z1.2.1 (23 + 3 * i + 1) s), .int (nI i), .ref 87] (st_h z1) := by
        rw [hcd]
        refine ri_go hJ [23] 90 20 rfl ?_
        refine ⟨_, e6_isEntA l z1 T hR1 hi hok hP1, ?_⟩
        rintro r h' ⟨rfl, z2, rfl, hm2⟩
        have hm3 : md [25 + 3 * i, 18, 19, 20] z z2 := md_tr hm (md_mo hm2 hsub)
        exact J_marks hJ rfl hp (k24 z2 (fun s' y hs' hy => by rw [md_F hm2 (by simp [sc3]; omega)]; exact hX s' y hs' hy) hm3)
      have k13 : J 13 0 0 [some (.ref 87), some (.int (nI i)), some (.ref (16 + (23 + 3 * i))), some (.int (zb b)), some (.int (nI s)), o] [.int (nI (stL T i).length), .int (nI s)] (st_h z1) := by
        refine ri_go hJ [17] 90 13 rfl ?_
        refine ⟨fun c => absurd c (nI_ge (by omega) (by omega)), fun _ => ?_⟩
        refine J_codes hJ rfl hp ?_
        refine ri_go hJ [19] 90 18 rfl ?_
        exact J_code hJ rfl hp (by omega) k20
      refine ri_go hJ [12] 90 10 rfl ?_
      exact J_lcall hJ (as := []) (rest := [.int (nI s)]) rfl (ly_obj hp z1) (e5_keptN l z1 hp hB1 h4) rfl rfl rfl rfl (fun r h' hr => by obtain ⟨rfl, rfl⟩ := hr; exact k13)
  have k5 : J 5 0 0 [some (.ref 87), some (.int (nI i)), none, none, none, none] [.ref (16 + (23 + 3 * i))] (st_h z) := by
    refine ri_go hJ [10] 90 5 rfl ?_
    exact loop (stL T i).length 0 (Nat.add_zero _) false (by rw [List.drop_zero, Bool.false_or]) z (fun s' x h => absurd h (by omega)) (md_rf _ _) none
  refine ri_run_ok hJ [4] 90 0 0 0 _ _ _ ?_
  exact J_layer hJ rfl hi k5
