/-! RowSearch: sortIn, dropWorst -/
theorem insk_fullm {a : Nat × Nat} {m : Nat} {L : wy} (hl : L.length = m + 1) (hS : Srt L) {b : Nat × Nat} (hb : L[m]? = some b) (hle : b.1 ≤ a.1) : insk (m + 1) L a = L := by
  have hat := insr_at (a := a) L (m + 1) (by omega) (fun j c hj hc => by
    by_cases a1 : j = m
    · rw [a1, hb] at hc; cases hc; exact hle
    · exact Nat.le_trans (hS j m c b (by omega) hc hb) hle) (fun c hc => by
    have := (List.getElem?_eq_some_iff.mp hc).1; omega)
  apply List.ext_getElem?
  intro j
  unfold insk
  rw [List.getElem?_take]
  by_cases hj : j < m + 1
  · rw [if_pos hj, hat, if_pos hj]
  · rw [if_neg hj, List.getElem?_eq_none (by omega)]
theorem Srt_take {L : wy} (h : Srt L) (m : Nat) : Srt (L.take m) := by
  intro j j' a b hj ha hb
  rw [List.getElem?_take] at ha hb
  by_cases h1 : j < m
  · by_cases h2 : j' < m
    · rw [if_pos h1] at ha; rw [if_pos h2] at hb; exact h j j' a b hj ha hb
    · rw [if_neg h2] at hb; cases hb
  · rw [if_neg h1] at ha; cases ha
theorem insk_drop {a : Nat × Nat} {m : Nat} {L : wy} (hl : L.length = m + 1) {b : Nat × Nat} (hb : L[m]? = some b) (hlt : a.1 < b.1) : insk (m + 1) L a = insr a (L.take m) := by
  obtain ⟨p, h1, h2, h3⟩ := insr_pos (a := a) L
  have hp : p ≤ m := by
    rcases Nat.lt_or_ge m p with q | q
    · have := h2 m b q hb; omega
    · exact q
  have hat := insr_at L p h1 h2 h3
  have hat2 := insr_at (a := a) (L.take m) p (by rw [List.length_take]; omega) (fun j c hj hc => by
    rw [List.getElem?_take, if_pos (by omega)] at hc; exact h2 j c hj hc) (fun c hc => by
    rw [List.getElem?_take] at hc
    by_cases q : p < m
    · rw [if_pos q] at hc; exact h3 c hc
    · rw [if_neg q] at hc; cases hc)
  apply List.ext_getElem?
  intro j
  unfold insk
  rw [List.getElem?_take, hat2]
  by_cases hj : j < m + 1
  · rw [if_pos hj, hat]
    by_cases a1 : j < p
    · rw [if_pos a1, if_pos a1, List.getElem?_take, if_pos (by omega)]
    · rw [if_neg a1, if_neg a1]
      by_cases a2 : j = p
      · rw [if_pos a2, if_pos a2]
      · rw [if_neg a2, if_neg a2, List.getElem?_take, if_pos (by omega)]
  · rw [if_neg hj, if_neg (by omega), if_neg (by omega), List.getElem?_take, if_neg (by omega)]
theorem insr_mem {a x : Nat × Nat} : ∀ {L : wy}, x ∈ insr a L ↔ x = a ∨ x ∈ L
  | [] => by simp [insr]
  | b :: r => by
    unfold insr
    by_cases h : b.1 ≤ a.1
    · rw [if_pos h, List.mem_cons, insr_mem, List.mem_cons]
      constructor
      · rintro (h | h | h)
        · exact Or.inr (Or.inl h)
        · exact Or.inl h
        · exact Or.inr (Or.inr h)
      · rintro (h | h | h)
        · exact Or.inr (Or.inl h)
        · exact Or.inl h
        · exact Or.inr (Or.inr h)
    · rw [if_neg h, List.mem_cons]
/-- the list of the best stands in the array; their sums stand in the other -/
def BL (f : Nat → Int32) (L : wy) : Prop := ∀ (j : Nat) (a : Nat × Nat), L[j]? = some a → f j = nI a.2
def SM (g : Nat → Int32) (L : wy) : Prop := ∀ (j : Nat) (a : Nat × Nat), L[j]? = some a → g (4 * a.2) = nI a.1 ∧ a.2 < 400 ∧ a.1 < 2 ^ 31
set_option maxHeartbeats 1000000 in
theorem e8_sortIn (l : Launch) (z : st_T) {s t n : Nat} {L : wy} (hn : n < 100) (hl : L.length = n) (hs : s < 400) (ht : t < 2 ^ 31) (hst : z.2.1 (sA z.2.2) (4 * s) = nI t) (hB : BL (z.2.1 97) L) (hM : SM (z.2.1 (sA z.2.2)) L) (hS : Srt L) : ri_Ev l y8_sortIn w8_sortIn r8_sortIn 0 0 [.ref 91, .int (nI s), .int (nI n)] (st_h z) (ri_zx fun z' => BL (z'.2.1 97) (insr (t, s) L) ∧ md [97] z z') := by
  refine ri_ev (t8_sortIn l _) rfl rfl rfl (Nat.le_of_ble_eq_true rfl) rfl (z8_sortIn l _) (fun J hJ => ?_)
  have hsv := sA_v z.2.2
  have k34 : ∀ p : Nat, p ≤ n → (∀ (j : Nat) (a : Nat × Nat), j < p → L[j]? = some a → a.1 ≤ t) → (∀ a : Nat × Nat, L[p]? = some a → t < a.1) → ∀ z1, (∀ j, j < p → z1.2.1 97 j = z.2.1 97 j) → (∀ j, p < j → j ≤ n → z1.2.1 97 j = z.2.1 97 (j - 1)) → md [97] z z1 → J 34 0 0 [some (.ref 91), some (.int (nI s)), some (.int (nI n)), some (.int (nI p))] [] (st_h z1) := by
    intro p hp hle hgt z1 hlo hhi hm
    have hat := insr_at (a := (t, s)) L p (by omega) hle hgt
    have k39 : J 39 0 0 [some (.ref 91), some (.int (nI s)), some (.int (nI n)), some (.int (nI p))] [] (st_h (fa z1 97 (upd (z1.2.1 97) p (nI s)))) := by
      refine ri_go hJ [] 90 39 rfl ?_
      refine ⟨rfl, _, rfl, fun j a ha => ?_, md_tr hm (md_fa (by simp))⟩
      have hjl := (List.getElem?_eq_some_iff.mp ha).1
      rw [insr_len] at hjl
      rw [hat] at ha
      rw [fa_self]
      by_cases a1 : j < p
      · rw [if_pos a1] at ha
        rw [pk_un (by omega), hlo j a1]; exact hB j a ha
      · rw [if_neg a1] at ha
        by_cases a2 : j = p
        · rw [if_pos a2] at ha; cases ha
          rw [a2, pk_us]
        · rw [if_neg a2] at ha
          rw [pk_un (by omega), hhi j (by omega) (by omega)]; exact hB _ a ha
    refine ri_go hJ [38] 90 34 rfl ?_
    exact J_aset hJ rfl AR_97 (by omega) k39
  have loop : ∀ p : Nat, p ≤ n → (∀ a : Nat × Nat, L[p]? = some a → t < a.1) → ∀ z1, (∀ j, j ≤ p → z1.2.1 97 j = z.2.1 97 j) → (∀ j, p < j → j ≤ n → z1.2.1 97 j = z.2.1 97 (j - 1)) → md [97] z z1 → J 2 0 0 [some (.ref 91), some (.int (nI s)), some (.int (nI n)), some (.int (nI p))] [] (st_h z1) := by
    intro p
    induction p with
    | zero =>
      intro hp hgt z1 hlo hhi hm
      refine ri_go hJ [34] 90 2 rfl ?_
      exact ⟨fun _ => k34 0 hp (fun j a hj => absurd hj (by omega)) hgt z1 (fun j hj => hlo j (by omega)) hhi hm, fun c => absurd (by decide) c⟩
    | succ p ih =>
      intro hp hgt z1 hlo hhi hm
      have em : nI (p + 1) - 1 = nI p := nI_pred p
      have e_1 : nI (p + 1) + (-1) = nI p := pk_m1 p
      have eb : z1.2.2 = z.2.2 := hm.2
      have f1 : z1.2.1 (sA z.2.2) = z.2.1 (sA z.2.2) := md_F hm (by simp; omega)
      obtain ⟨a, ha⟩ : ∃ a, L[p]? = some a := ⟨_, List.getElem?_eq_getElem (by omega)⟩
      obtain ⟨m1, m2, m3⟩ := hM p a ha
      have hz : z1.2.1 97 p = nI a.2 := by rw [hlo p (by omega)]; exact hB p a ha
      have k22 : t < a.1 → J 22 0 0 [some (.ref 91), some (.int (nI s)), some (.int (nI n)), some (.int (nI (p + 1)))] [] (st_h z1) := by
        intro hta
        have k32 : J 32 0 0 [some (.ref 91), some (.int (nI s)), some (.int (nI n)), some (.int (nI (p + 1)))] [] (st_h (fa z1 97 (upd (z1.2.1 97) (p + 1) (z1.2.1 97 p)))) := by
          refine ri_go hJ [2] 90 32 rfl ?_
          have := ih (by omega) (fun b hb => by rw [ha] at hb; cases hb; exact hta) (fa z1 97 (upd (z1.2.1 97) (p + 1) (z1.2.1 97 p))) (fun j hj => by rw [fa_self, pk_un (by omega)]; exact hlo j (by omega)) (fun j h1 h2 => by
            rw [fa_self]
            by_cases q : j = p + 1
            · rw [q, pk_us, show p + 1 - 1 = p by omega]; exact hlo p (by omega)
            · rw [pk_un q]; exact hhi j (by omega) h2) (md_tr hm (md_fa (by simp)))
          rw [← e_1] at this
          exact this
        refine ri_go hJ [30] 90 22 rfl ?_
        show J 30 0 0 _ [.int (nI (p + 1) - 1), .ref (16 + 97), .int (nI (p + 1)), .ref (16 + 97)] _
        rw [em]
        exact J_aget hJ rfl AR_97 (by omega) (J_aset hJ rfl AR_97 (by omega) k32)
      have k21 : J 21 0 0 [some (.ref 91), some (.int (nI s)), some (.int (nI n)), some (.int (nI (p + 1)))] [.int (z1.2.1 (sA z.2.2) (4 * s)), .int (z1.2.1 (sA z.2.2) (4 * a.2))] (st_h z1) := by
        rw [f1, hst, m1]
        refine ri_go hJ [34, 22] 90 21 rfl ?_
        refine ⟨fun c => k34 (p + 1) hp (fun j b hj hb => ?_) hgt z1 (fun j hj => hlo j (by omega)) hhi hm, fun c => k22 ?_⟩
        · have c : nI a.1 ≤ nI t := c
          rw [nn_le m3 ht] at c
          by_cases q : j = p
          · rw [q, ha] at hb; cases hb; exact c
          · exact Nat.le_trans (hS j p b a (by omega) hb ha) c
        · have c : ¬ nI a.1 ≤ nI t := c
          rw [nn_le m3 ht] at c
          omega
      have k15 : J 15 0 0 [some (.ref 91), some (.int (nI s)), some (.int (nI n)), some (.int (nI (p + 1)))] [.int (z1.2.1 (sA z.2.2) (4 * a.2))] (st_h z1) := by
        refine ri_go hJ [20] 90 15 rfl ?_
        have := J_aget hJ (k := 20) rfl (AR_sA z.2.2) (by omega) k21
        rw [← sA_r, ← eb, ← mul4] at this
        rw [← eb]
        exact this
      have k12 : J 12 0 0 [some (.ref 91), some (.int (nI s)), some (.int (nI n)), some (.int (nI (p + 1)))] [.int (z1.2.1 97 p), .ref (16 + sA z.2.2)] (st_h z1) := by
        rw [hz]
        refine ri_go hJ [14] 90 12 rfl ?_
        have := J_aget hJ (k := 14) rfl (AR_sA z.2.2) (by omega) k15
        rw [← mul4] at this
        exact this
      refine ri_go hJ [34, 11] 90 2 rfl ?_
      refine ⟨fun c => absurd c (nI_nle (by omega) (by omega)), fun _ => ?_⟩
      have := J_aget hJ (k := 11) rfl AR_97 (by omega) k12
      rw [← em, ← sA_r, ← eb] at this
      exact this
  refine ri_run_ok hJ [2] 90 0 0 0 _ _ _ ?_
  exact loop n (Nat.le_refl _) (fun a ha => by have := (List.getElem?_eq_some_iff.mp ha).1; omega) z (fun j _ => rfl) (fun j h1 h2 => absurd h1 (by omega)) (md_rf _ _)
/-- which of the two goes -/
def outS (b : Nat × Nat) (t s : Nat) : Nat := if t < b.1 then b.2 else s
set_option maxHeartbeats 1000000 in
theorem e8_dropWorst (l : Launch) (z : st_T) {i s t m : Nat} {L : wy} {b : Nat × Nat} (hi : i < 16) (hm : m < 100) (hl : L.length = m + 1) (hb : L[m]? = some b) (hs : s < 400) (ht : t < 2 ^ 31) (hst : z.2.1 (sA z.2.2) (4 * s) = nI t) (hB : BL (z.2.1 97) L) (hM : SM (z.2.1 (sA z.2.2)) L) (hS : Srt L) : ri_Ev l y8_dropWorst w8_dropWorst r8_dropWorst 0 0 [.ref 91, .ref (16 + (78 + i)), .int (nI s), .int (nI (m + 1))] (st_h z) (ri_zx fun z' => BL (z'.2.1 97) (insk (m + 1) L (t, s)) ∧ z'.2.1 (78 + i) = upd (z.2.1 (78 + i)) (4 * outS b t s) (-1) ∧ md [97, 78 + i] z z') := by
  refine ri_ev (t8_dropWorst l _) rfl rfl rfl (Nat.le_of_ble_eq_true rfl) rfl (z8_dropWorst l _) (fun J hJ => ?_)
  have hsv := sA_v z.2.2
  have em : nI (m + 1) - 1 = nI m := nI_pred m
  obtain ⟨m1, m2, m3⟩ := hM m b hb
  have k20 : t < b.1 → J 20 0 0 [some (.ref 91), some (.ref (16 + (78 + i))), some (.int (nI s)), some (.int (nI (m + 1))), some (.int (nI b.2))] [] (st_h z) := by
    intro hlt
    have k26 : J 26 0 0 [some (.ref 91), some (.ref (16 + (78 + i))), some (.int (nI s)), some (.int (nI (m + 1))), some (.int (nI b.2))] [] (st_h (fa z (78 + i) (upd (z.2.1 (78 + i)) (4 * b.2) (-1)))) := by
      refine ri_go hJ [] 90 26 rfl ?_
      have es := e8_sortIn l (fa z (78 + i) (upd (z.2.1 (78 + i)) (4 * b.2) (-1))) (s := s) (t := t) (n := m) (L := L.take m) hm (by rw [List.length_take]; omega) hs ht (by rw [show (fa z (78 + i) (upd (z.2.1 (78 + i)) (4 * b.2) (-1))).2.2 = z.2.2 from rfl, fa_ne _ _ (by omega)]; exact hst) (fun j a ha => by
        rw [fa_ne _ _ (by omega)]
        rw [List.getElem?_take] at ha
        by_cases q : j < m
        · rw [if_pos q] at ha; exact hB j a ha
        · rw [if_neg q] at ha; cases ha) (fun j a ha => by
        rw [show (fa z (78 + i) (upd (z.2.1 (78 + i)) (4 * b.2) (-1))).2.2 = z.2.2 from rfl, fa_ne _ _ (by omega)]
        rw [List.getElem?_take] at ha
        by_cases q : j < m
        · rw [if_pos q] at ha; exact hM j a ha
        · rw [if_neg q] at ha; cases ha) (Srt_take hS m)
      rw [← em] at es
      refine ⟨_, es, ?_⟩
      rintro r h' ⟨rfl, z2, rfl, hB2, hm2⟩
      refine ⟨rfl, z2, rfl, by rw [insk_drop hl hb hlt]; exact hB2, ?_, md_tr (md_fa (by simp)) (md_mo hm2 (by simp))⟩
      rw [md_F hm2 (by simp; omega), fa_self]
      unfold outS
      rw [if_pos hlt]
    refine ri_go hJ [25] 90 20 rfl ?_
    have := J_aset hJ (k := 25) rfl (AR_lk hi) (by omega) k26
    rw [← mul4] at this
    exact this
  have k33 : ¬ t < b.1 → J 33 0 0 [some (.ref 91), some (.ref (16 + (78 + i))), some (.int (nI s)), some (.int (nI (m + 1))), some (.int (nI b.2))] [] (st_h z) := by
    intro hge
    have k39 : J 39 0 0 [some (.ref 91), some (.ref (16 + (78 + i))), some (.int (nI s)), some (.int (nI (m + 1))), some (.int (nI b.2))] [] (st_h (fa z (78 + i) (upd (z.2.1 (78 + i)) (4 * s) (-1)))) := by
      refine ri_go hJ [] 90 39 rfl ?_
      refine ⟨rfl, _, rfl, ?_, ?_, md_fa (by simp)⟩
      · rw [insk_fullm hl hS hb (show b.1 ≤ t by omega), fa_ne _ _ (by omega)]; exact hB
      · rw [fa_self]; unfold outS; rw [if_neg hge]
    refine ri_go hJ [38] 90 33 rfl ?_
    have := J_aset hJ (k := 38) rfl (AR_lk hi) (by omega) k39
    rw [← mul4] at this
    exact this
  have k19 : J 19 0 0 [some (.ref 91), some (.ref (16 + (78 + i))), some (.int (nI s)), some (.int (nI (m + 1))), some (.int (nI b.2))] [.int (z.2.1 (sA z.2.2) (4 * b.2)), .int (z.2.1 (sA z.2.2) (4 * s))] (st_h z) := by
    rw [hst, m1]
    refine ri_go hJ [33, 20] 90 19 rfl ?_
    refine ⟨fun c => k33 ?_, fun c => k20 ?_⟩
    · have c : nI b.1 ≤ nI t := c
      rw [nn_le m3 ht] at c; omega
    · have c : ¬ nI b.1 ≤ nI t := c
      rw [nn_le m3 ht] at c; omega
  have k13 : J 13 0 0 [some (.ref 91), some (.ref (16 + (78 + i))), some (.int (nI s)), some (.int (nI (m + 1))), some (.int (nI b.2))] [.int (z.2.1 (sA z.2.2) (4 * s))] (st_h z) := by
    refine ri_go hJ [18] 90 13 rfl ?_
    have := J_aget hJ (k := 18) rfl (AR_sA z.2.2) (by omega) k19
    rw [← sA_r, ← mul4 b.2] at this
    exact this
  have k6 : J 6 0 0 [some (.ref 91), some (.ref (16 + (78 + i))), some (.int (nI s)), some (.int (nI (m + 1))), none] [.int (z.2.1 97 m)] (st_h z) := by
    rw [hB m b hb]
    refine ri_go hJ [12] 90 6 rfl ?_
    have := J_aget hJ (k := 12) rfl (AR_sA z.2.2) (by omega) k13
    rw [← sA_r, ← mul4 s] at this
    exact this
  refine ri_run_ok hJ [5] 90 0 0 0 _ _ _ ?_
  have := J_aget hJ (k := 5) rfl AR_97 (by omega) k6
  rw [← em] at this
  exact this
