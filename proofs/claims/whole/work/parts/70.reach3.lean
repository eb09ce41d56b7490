/-! Reach: firstUnreached -/
theorem n9_non2 {n : Nat} (h : n < 2 ^ 31) : n9 n = -2 ↔ n = 99 := by
  unfold n9
  by_cases hn : n = 99
  · rw [if_pos hn]; exact ⟨fun _ => hn, fun _ => rfl⟩
  · rw [if_neg hn]; exact ⟨fun q => absurd q (nI_m2 h), fun q => absurd q hn⟩
def mdM : List Nat := [18, 19, 20, 25, 28, 31, 34, 37, 40, 43, 46, 49, 52, 55, 58, 61, 64, 67, 70]
theorem mdM_in : ∀ i, i < 16 → 25 + 3 * i ∈ mdM := by decide
theorem mdM_H : ∀ p ∈ mdM, p < 9 ∨ 13 < p := by decide
theorem mdM_S : ∀ p ∈ mdM, 8 < p := by decide
theorem mdM_no : ∀ i, i < 16 → 23 + 3 * i ∉ mdM ∧ 23 + 3 * i + 1 ∉ mdM := by decide
def fuF (T : tT) : Nat → Nat → Nat
  | 0, _ => 99
  | n + 1, i => if (stL T i).any (come T i) = true then fuF T n (i + 1) else i
/-- the first place to which no row comes; 99: none such -/
def fu (T : tT) : Nat := fuF T (T 8 2) 0
/-- no place has too many -/
def FEW (T : tT) : Prop := ∀ i, i < T 8 2 → (stL T i).length ≤ 400
theorem e6_firstUnreached (l : Launch) (z : st_T) (T : tT) (hW : TW T) (hS : RS z T) (hR : RH z T) (hB : TB z T (T 8 2)) (h4 : FEW T) : ri_Ev l y6_firstUnreached w6_firstUnreached r6_firstUnreached 0 0 [.ref 87] (st_h z) (ri_zi (n9 (fu T)) fun z' => (∀ i, i < T 8 2 → MX z' T i) ∧ md mdM z z') := by
  refine ri_ev (t6_firstUnreached l _) rfl rfl rfl (Nat.le_of_ble_eq_true rfl) rfl (z6_firstUnreached l _) (fun J hJ => ?_)
  have hn := hW.1
  have loop : ∀ n i, n + i = T 8 2 → ∀ f, (f = 99 ∨ f < 16) → fu T = (if f = 99 then fuF T n i else f) → ∀ z1, (∀ j, j < i → MX z1 T j) → md mdM z z1 → ∀ o, J 4 0 0 [some (.ref 87), some (.int (n9 f)), some (.int (nI i)), o] [] (st_h z1) := by
    intro n
    induction n with
    | zero =>
      intro i hi f hf e z1 hX hm o
      have hS1 := RS_md hS hm mdM_S
      refine ri_go hJ [] 90 4 rfl ?_
      refine ⟨fun _ => ⟨?_, z1, rfl, fun j hj => hX j (by omega), hm⟩, fun c => absurd (show z1.1 1 0 ≤ nI i from ?_) c⟩
      · rw [e]
        by_cases h9 : f = 99
        · rw [if_pos h9, h9]; rfl
        · rw [if_neg h9]
      · rw [hS1.2.2.2.2.1]; exact nI_le (by omega) (by omega)
    | succ n ih =>
      intro i hi f hf e z1 hX hm o
      have e1 := nI_1 i
      have hi16 : i < 16 := by omega
      have hS1 := RS_md hS hm mdM_S
      have hR1 := RH_md hR hm mdM_H
      have hB1 : ∀ j, j < T 8 2 → LY z1 (23 + 3 * j) (stL T j) := fun j hj => LY_md (hB j hj) hm (mdM_no j (by omega)).1 (mdM_no j (by omega)).2
      have hP1 : PB z1 T i := fun j hj => ⟨hB1 j (by omega), h4 j (by omega), MX_MK (hX j (by omega))⟩
      refine ri_go hJ [4, 20] 90 4 rfl ?_
      refine ⟨fun c => absurd (show z1.1 1 0 ≤ nI i from c) ?_, fun _ => ⟨_, e6_markReached l z1 T hR1 hi16 (hB1 i (by omega)) (h4 i (by omega)) hP1, ?_⟩⟩
      · rw [hS1.2.2.2.2.1]; exact nI_ge (by omega) (by omega)
      · rintro r h' ⟨rfl, z2, rfl, hX2, hm2⟩
        have hm3 : md mdM z z2 := md_tr hm (md_mo hm2 (by
          intro q hq
          simp only [List.mem_cons, List.not_mem_nil, or_false] at hq
          rcases hq with rfl | rfl | rfl | rfl
          · exact mdM_in i hi16
          · decide
          · decide
          · decide))
        have hX3 : ∀ j, j < i + 1 → MX z2 T j := by
          intro j hj
          by_cases hji : j = i
          · rw [hji]; exact hX2
          · intro s x hx
            rw [md_F hm2 (by simp; omega)]
            exact hX j (by omega) s x hx
        have k20 : ∀ f', (f' = 99 ∨ f' < 16) → fu T = (if f' = 99 then fuF T n (i + 1) else f') → J 20 0 0 [some (.ref 87), some (.int (n9 f')), some (.int (nI i)), some (.int (zb ((stL T i).any (come T i))))] [] (st_h z2) := by
          intro f' hf' e'
          refine ri_go hJ [4] 90 20 rfl ?_
          have := ih (i + 1) (by omega) f' hf' e' z2 hX3 hm3 (some (.int (zb ((stL T i).any (come T i)))))
          rw [← e1] at this
          exact this
        refine ⟨fun c => k20 f hf ?_, fun c => ⟨fun d => k20 f hf ?_, fun d => ?_⟩⟩
        · have ht := zb_1.mp c
          rw [e]
          show (if _ then (if _ then _ else _) else _) = _
          rw [if_pos ht]
        · have d : ¬ n9 f = -2 := d
          rw [n9_non2 (by omega)] at d
          rw [e, if_neg d, if_neg d]
        · have ht := zb_0.mp (Decidable.not_not.mp c)
          have d : n9 f = -2 := Decidable.not_not.mp d
          rw [n9_non2 (by omega)] at d
          have := k20 i (Or.inr hi16) (by
            rw [e, if_pos d, if_neg (by omega)]
            show (if _ then _ else _) = _
            rw [if_neg (by rw [ht]; decide)])
          rw [show n9 i = nI i by unfold n9; rw [if_neg (by omega)]] at this
          exact this
  exact ri_run_ok hJ [4] 90 0 0 0 _ _ _ (loop (T 8 2) 0 (Nat.add_zero _) 99 (Or.inl rfl) rfl z (fun j hj => absurd hj (by omega)) (md_rf _ _) none)
