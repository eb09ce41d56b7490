/-! Table -/
def TB (z : st_T) (T : tT) (n : Nat) : Prop := ∀ i, i < n → LY z (23 + 3 * i) (stL T i)
def mdL : List Nat := [15, 16, 21, 23, 24, 26, 27, 29, 30, 32, 33, 35, 36, 38, 39, 41, 42, 44, 45, 47, 48, 50, 51, 53, 54, 56, 57, 59, 60, 62, 63, 65, 66, 68, 69]
theorem mdL_in : ∀ i, i < 16 → 23 + 3 * i ∈ mdL ∧ 24 + 3 * i ∈ mdL := by decide
theorem mdL_H : ∀ p ∈ mdL, p < 9 ∨ 13 < p := by decide
theorem mdL_S : ∀ p ∈ mdL, 8 < p := by decide
theorem lyP_of {i : Nat} (hi : i < 16) : lyP (23 + 3 * i) := Or.inr ⟨i, hi, rfl⟩
/-- fresh, and then the layers hold the states; or not fresh -/
def FR (z : st_T) (T : tT) : Prop := z.1 21 3 = 0 ∨ (z.1 21 3 = 1 ∧ TB z T (T 8 2))
theorem stL_len (T : tT) (i : Nat) : (stL T i).length ≤ 2 ^ 28 := stB_len T i _
theorem e4_prepare (l : Launch) (z : st_T) (T : tT) (hW : TW T) (hS : RS z T) (hR : RH z T) (hF : FR z T) : ri_Ev l y4_prepare w4_prepare r4_prepare 0 0 [.ref 37] (st_h z) (ri_zx fun z' => TB z' T (T 8 2) ∧ z'.1 21 3 = 1 ∧ md mdL z z') := by
  refine ri_ev (t4_prepare l _) rfl rfl rfl (Nat.le_of_ble_eq_true rfl) rfl (z4_prepare l _) (fun J hJ => ?_)
  have hn := hW.1
  have loop : ∀ n i, n + i = T 8 2 → ∀ z1, TB z1 T i → md mdL z z1 → J 6 0 0 [some (.ref 37), some (.int (nI i))] [] (st_h z1) := by
    intro n
    induction n with
    | zero =>
      intro i hi z1 hB hm
      have hS1 := RS_md hS hm mdL_S
      refine ri_go hJ [] 60 6 rfl ?_
      refine ⟨fun _ => ⟨rfl, fs z1 21 3 1, rfl, fun j hj => ?_, fs_self _ _ _ _, md_tr hm (md_fs (by decide))⟩, fun c => absurd (show z1.1 1 0 ≤ nI i from ?_) c⟩
      · exact LY_md (hB j (by omega)) (md_fs (ps := [21]) (by decide)) (by simp; omega) (by simp; omega)
      · rw [hS1.2.2.2.2.1]; exact nI_le (by omega) (by omega)
    | succ n ih =>
      intro i hi z1 hB hm
      have e1 := nI_1 i
      have hS1 := RS_md hS hm mdL_S
      have hR1 := RH_md hR hm mdL_H
      have hi16 : i < 16 := by omega
      have hin := mdL_in i hi16
      have k17 : J 17 0 0 [some (.ref 37), some (.int (nI i))] [.ref (16 + (23 + 3 * i)), .ref 30] (st_h z1) := by
        refine ri_go hJ [6] 60 17 rfl ?_
        refine ⟨_, e2_fill l (lyP_of hi16) z1 T hW hS1 hR1 hi16, ?_⟩
        rintro r h' ⟨rfl, z2, rfl, hL2, hm2⟩
        have := ih (i + 1) (by omega) z2 (fun j hj => by
          by_cases hji : j = i
          · rw [hji]; exact hL2
          · exact LY_md (hB j (by omega)) hm2 (by simp; omega) (by simp; omega)) (md_tr hm (md_mo hm2 (by
            intro q hq
            simp only [List.mem_cons, List.not_mem_nil, or_false] at hq
            rcases hq with rfl | rfl | rfl | rfl
            · exact hin.1
            · rw [show 23 + 3 * i + 1 = 24 + 3 * i by omega]; exact hin.2
            · decide
            · decide)))
        rw [← e1] at this
        exact this
      refine ri_go hJ [16] 60 6 rfl ?_
      refine ⟨fun c => absurd (show z1.1 1 0 ≤ nI i from c) ?_, fun _ => J_layer hJ rfl hi16 k17⟩
      rw [hS1.2.2.2.2.1]; exact nI_ge (by omega) (by omega)
  refine ri_run_ok hJ [6] 60 0 0 0 _ _ _ ?_
  refine ⟨fun c => loop (T 8 2) 0 rfl z (fun i hi => absurd hi (by omega)) (md_rf _ _), fun c => ?_⟩
  rcases hF with h | h
  · exact absurd h c
  · exact ⟨rfl, z, rfl, h.2, h.1, md_rf _ _⟩
def ovP (T : tT) (i : Nat) : Bool := decide (400 < (stL T i).length)
def ovf (T : tT) : Bool := anf (ovP T) (T 8 2) 0
theorem e4_overflows (l : Launch) (z : st_T) (T : tT) (hW : TW T) (hS : RS z T) (hB : TB z T (T 8 2)) : ri_Ev l y4_overflows w4_overflows r4_overflows 0 0 [.ref 37] (st_h z) (ri_is (zb (ovf T)) (st_h z)) := by
  refine ri_ev (t4_overflows l _) rfl rfl rfl (Nat.le_of_ble_eq_true rfl) rfl (z4_overflows l _) (fun J hJ => ?_)
  have hn := hW.1
  have loop : ∀ n i, n + i = T 8 2 → ovf T = anf (ovP T) n i → J 2 0 0 [some (.ref 37), some (.int (nI i))] [] (st_h z) := by
    intro n
    induction n with
    | zero =>
      intro i hi e
      refine ri_go hJ [] 60 2 rfl ?_
      refine ⟨fun _ => ⟨rfl, by rw [e]; rfl, rfl⟩, fun c => absurd (show z.1 1 0 ≤ nI i from ?_) c⟩
      rw [hS.2.2.2.2.1]; exact nI_le (by omega) (by omega)
    | succ n ih =>
      intro i hi e
      have e1 := nI_1 i
      have hi16 : i < 16 := by omega
      have hl := hB i (by omega)
      have hlen := stL_len T i
      have k12 : J 12 0 0 [some (.ref 37), some (.int (nI i))] [.int (z.1 (23 + 3 * i) 0)] (st_h z) := by
        refine ri_go hJ [2] 60 12 rfl ?_
        refine ⟨fun c => ?_, fun c => ⟨rfl, ?_, rfl⟩⟩
        · have c : z.1 (23 + 3 * i) 0 ≤ 400 := c
          rw [hl.1, show (400 : Int32) = nI 400 from rfl, nn_le (by omega) (by decide)] at c
          have := ih (i + 1) (by omega) (by rw [e, anf_f (show ovP T i = false from decide_eq_false (by omega))])
          rw [← e1] at this
          exact this
        · have c : ¬ z.1 (23 + 3 * i) 0 ≤ 400 := c
          rw [hl.1, show (400 : Int32) = nI 400 from rfl, nn_le (by omega) (by decide)] at c
          rw [e, anf_t (show ovP T i = true from decide_eq_true (by omega))]; rfl
      refine ri_go hJ [10] 60 2 rfl ?_
      refine ⟨fun c => absurd (show z.1 1 0 ≤ nI i from c) ?_, fun _ => J_layer hJ rfl hi16 (J_size hJ rfl (lyP_of hi16) k12)⟩
      rw [hS.2.2.2.2.1]; exact nI_ge (by omega) (by omega)
  exact ri_run_ok hJ [2] 60 0 0 0 _ _ _ (loop (T 8 2) 0 rfl rfl)
