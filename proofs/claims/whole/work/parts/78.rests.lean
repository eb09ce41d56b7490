/-! Arrays.fill; RowSearch: insertRests -/
theorem e15_fill (l : Launch) {p N : Nat} (hp : AR p N) (z : st_T) (x : Int32) : ri_Ev l y15_fill w15_fill r15_fill 0 0 [.ref (16 + p), .int x] (st_h z) (ri_zx fun z' => (∀ j, j < N → z'.2.1 p j = x) ∧ md [p] z z') := by
  refine ri_ev (t15_fill l _) rfl rfl rfl (Nat.le_of_ble_eq_true rfl) rfl (z15_fill l _) (fun J hJ => ?_)
  have hN := hp.1
  have loop : ∀ n j, n + j = N → ∀ z1, (∀ i, i < j → z1.2.1 p i = x) → md [p] z z1 → J 5 0 0 [some (.ref (16 + p)), some (.int x), some (.int (nI j)), some (.int (nI N))] [] (st_h z1) := by
    intro n
    induction n with
    | zero =>
      intro j hj z1 h1 hm
      refine ri_go hJ [] 60 5 rfl ?_
      exact ⟨fun _ => ⟨rfl, z1, rfl, fun i hi => h1 i (by omega), hm⟩, fun c => absurd (nI_le (by omega) (by omega)) c⟩
    | succ n ih =>
      intro j hj z1 h1 hm
      have e1 := nI_1 j
      have k12 : J 12 0 0 [some (.ref (16 + p)), some (.int x), some (.int (nI j)), some (.int (nI N))] [] (st_h (fa z1 p (upd (z1.2.1 p) j x))) := by
        refine ri_go hJ [5] 60 12 rfl ?_
        have := ih (j + 1) (by omega) (fa z1 p (upd (z1.2.1 p) j x)) (fun i hi => by
          rw [fa_self]
          by_cases q : i = j
          · rw [q, pk_us]
          · rw [pk_un q]; exact h1 i (by omega)) (md_tr hm (md_fa (by simp)))
        rw [← e1] at this
        exact this
      refine ri_go hJ [11] 60 5 rfl ?_
      exact ⟨fun c => absurd c (nI_ge (by omega) (by omega)), fun _ => J_aset hJ rfl hp (by omega) k12⟩
  have k4 : J 4 0 0 [some (.ref (16 + p)), some (.int x), some (.int (nI 0)), none] [.int (nI N)] (st_h z) := by
    refine ri_go hJ [5] 60 4 rfl ?_
    exact loop N 0 (Nat.add_zero _) z (fun i hi => absurd hi (by omega)) (md_rf _ _)
  have k3 : J 3 0 0 [some (.ref (16 + p)), some (.int x), some (.int (nI 0)), none] [.ref (16 + p)] (st_h z) := by
    refine ri_go hJ [] 0 3 rfl ?_
    unfold i_alen
    simp only [(hp.2 z).1]
    exact k4
  refine ri_run_ok hJ [3] 60 0 0 0 _ _ _ ?_
  exact k3
/-- the rests of the next state t, put in order into what is there -/
def rstF (c t : Nat) : Nat → wy → wy → wy
  | _, [], acc => acc
  | r, a :: W, acc => rstF c t (r + 1) W (insk 4 acc (c + a.1, 4 * t + r))
theorem insr_full {a : Nat × Nat} {L : wy} (hl : L.length = 4) (hS : Srt L) {b : Nat × Nat} (hb : L[3]? = some b) (hle : b.1 ≤ a.1) : insk 4 L a = L := by
  have hat := insr_at (a := a) L 4 (by omega) (fun j c hj hc => by
    by_cases a1 : j = 3
    · rw [a1, hb] at hc; cases hc; exact hle
    · exact Nat.le_trans (hS j 3 c b (by omega) hc hb) hle) (fun c hc => by
    have := (List.getElem?_eq_some_iff.mp hc).1; omega)
  apply List.ext_getElem?
  intro j
  unfold insk
  rw [List.getElem?_take]
  by_cases hj : j < 4
  · rw [if_pos hj, hat, if_pos hj]
  · rw [if_neg hj, List.getElem?_eq_none (by omega)]
theorem rstF_full {c t : Nat} : ∀ (W : wy) (r : Nat) (L : wy), L.length = 4 → Srt L → ∀ b : Nat × Nat, L[3]? = some b → (∀ a ∈ W, b.1 ≤ c + a.1) → rstF c t r W L = L
  | [], _, _, _, _, _, _, _ => rfl
  | a :: W, r, L, hl, hS, b, hb, h => by
    show rstF c t (r + 1) W (insk 4 L (c + a.1, 4 * t + r)) = L
    rw [insr_full hl hS hb (h a (List.mem_cons_self ..))]
    exact rstF_full W (r + 1) L hl hS b hb (fun a' ha => h a' (List.mem_cons_of_mem _ ha))
theorem insk_BD {B m : Nat} {L : wy} {a : Nat × Nat} (h : BD B L) (h1 : a.1 < B) (h2 : a.2 < 2 ^ 31) : BD B (insk m L a) := by
  intro j c hc
  unfold insk at hc
  rw [List.getElem?_take] at hc
  by_cases q : j < m
  · rw [if_pos q] at hc
    obtain ⟨p, p1, p2, p3⟩ := insr_pos (a := a) L
    rw [insr_at L p p1 p2 p3] at hc
    by_cases a1 : j < p
    · rw [if_pos a1] at hc; exact h j c hc
    · rw [if_neg a1] at hc
      by_cases a2 : j = p
      · rw [if_pos a2] at hc; cases hc; exact ⟨h1, h2⟩
      · rw [if_neg a2] at hc; exact h _ c hc
  · rw [if_neg q] at hc; cases hc
theorem BD_mem {B : Nat} {L : wy} (h : BD B L) {a : Nat × Nat} (ha : a ∈ L) : a.1 < B ∧ a.2 < 2 ^ 31 := by
  obtain ⟨j, hj, e⟩ := List.getElem_of_mem ha
  exact h j a (by rw [List.getElem?_eq_getElem hj, e])
theorem rstF_ok {c t B : Nat} : ∀ (W : wy) (r : Nat) (L : wy), (∀ a ∈ W, c + a.1 < B) → 4 * t + r + W.length < 2 ^ 31 → L.length ≤ 4 → Srt L → BD B L → (rstF c t r W L).length ≤ 4 ∧ Srt (rstF c t r W L) ∧ BD B (rstF c t r W L)
  | [], _, _, _, _, hl, hS, hb => ⟨hl, hS, hb⟩
  | a :: W, r, L, hW, ht, hl, hS, hb => by
    have ht : 4 * t + r + (W.length + 1) < 2 ^ 31 := ht
    exact rstF_ok W (r + 1) _ (fun a' ha => hW a' (List.mem_cons_of_mem _ ha)) (by omega) (by rw [insk_len]; omega) (insk_srt hS) (insk_BD hb (hW a (List.mem_cons_self ..)) (show 4 * t + r < 2 ^ 31 by omega))
theorem mul4 (s : Nat) : nI s * 4 = nI (4 * s) := by rw [show (4 : Int32) = nI 4 from rfl, pk_mul, Nat.mul_comm]
theorem dropw {L : wy} {s : Nat} {x : Nat × Nat} (h : L[s]? = some x) : L.drop s = x :: L.drop (s + 1) := by
  obtain ⟨hl, he⟩ := List.getElem?_eq_some_iff.mp h
  rw [List.drop_eq_getElem_cons hl, he]
theorem sl_ne (b : Bool) : sA b ≠ lA b := by cases b <;> decide
theorem sA_v (b : Bool) : sA b = 94 ∨ sA b = 95 := by cases b <;> simp [sA]
theorem lA_v (b : Bool) : lA b = 94 ∨ lA b = 95 := by cases b <;> simp [lA]
set_option maxHeartbeats 1000000 in
theorem e8_insertRests (l : Launch) (z : st_T) {i s t c : Nat} {W acc : wy} (hi : i + 1 < 16) (hs : s < 400) (ht : t < 400) (hW4 : W.length ≤ 4) (hWS : Srt W) (hW : RW (z.2.1 (lA z.2.2)) (z.2.1 (78 + (i + 1))) (4 * t) W) (hWB : BD (2 ^ 30) W) (hc : c < 2 ^ 30) (h4 : acc.length ≤ 4) (hS : Srt acc) (hb : BD (2 ^ 31) acc) (hL : RW (z.2.1 (sA z.2.2)) (z.2.1 (78 + i)) (4 * s) acc) : ri_Ev l y8_insertRests w8_insertRests r8_insertRests 0 0 [.ref 91, .int (nI i), .int (nI s), .int (nI t), .int (nI c)] (st_h z) (ri_zx fun z' => RW (z'.2.1 (sA z.2.2)) (z'.2.1 (78 + i)) (4 * s) (rstF c t 0 W acc) ∧ (∀ j, (j < 4 * s ∨ 4 * s + 4 ≤ j) → z'.2.1 (sA z.2.2) j = z.2.1 (sA z.2.2) j ∧ z'.2.1 (78 + i) j = z.2.1 (78 + i) j) ∧ md [sA z.2.2, 78 + i] z z') := by
  refine ri_ev (t8_insertRests l _) rfl rfl rfl (Nat.le_of_ble_eq_true rfl) rfl (z8_insertRests l _) (fun J hJ => ?_)
  have hsv := sA_v z.2.2
  have hlv := lA_v z.2.2
  have hne := sl_ne z.2.2
  have fin : ∀ (z1 : st_T) (R : wy), R = rstF c t 0 W acc → RW (z1.2.1 (sA z.2.2)) (z1.2.1 (78 + i)) (4 * s) R → (∀ j, (j < 4 * s ∨ 4 * s + 4 ≤ j) → z1.2.1 (sA z.2.2) j = z.2.1 (sA z.2.2) j ∧ z1.2.1 (78 + i) j = z.2.1 (78 + i) j) → md [sA z.2.2, 78 + i] z z1 → (ri_zx fun z' => RW (z'.2.1 (sA z.2.2)) (z'.2.1 (78 + i)) (4 * s) (rstF c t 0 W acc) ∧ (∀ j, (j < 4 * s ∨ 4 * s + 4 ≤ j) → z'.2.1 (sA z.2.2) j = z.2.1 (sA z.2.2) j ∧ z'.2.1 (78 + i) j = z.2.1 (78 + i) j) ∧ md [sA z.2.2, 78 + i] z z') none (st_h z1) := fun z1 R e h1 h2 h3 => ⟨rfl, z1, rfl, by rw [← e]; exact h1, h2, h3⟩
  have loop : ∀ n r, n + r = 4 → ∀ (z1 : st_T) (a1 : wy), a1.length ≤ 4 → Srt a1 → BD (2 ^ 31) a1 → RW (z1.2.1 (sA z.2.2)) (z1.2.1 (78 + i)) (4 * s) a1 → rstF c t r (W.drop r) a1 = rstF c t 0 W acc → (∀ j, (j < 4 * s ∨ 4 * s + 4 ≤ j) → z1.2.1 (sA z.2.2) j = z.2.1 (sA z.2.2) j ∧ z1.2.1 (78 + i) j = z.2.1 (78 + i) j) → md [sA z.2.2, 78 + i] z z1 → ∀ o, J 2 0 0 [some (.ref 91), some (.int (nI i)), some (.int (nI s)), some (.int (nI t)), some (.int (nI c)), some (.int (nI r)), o] [] (st_h z1) := by
    intro n
    induction n with
    | zero =>
      intro r hr z1 a1 h4 hS hb hL e hfr hm o
      have hr4 : r = 4 := by omega
      subst hr4
      rw [List.drop_of_length_le hW4] at e
      refine ri_go hJ [] 90 2 rfl ?_
      exact ⟨fun _ => fin z1 a1 e hL hfr hm, fun c => absurd (by decide) c⟩
    | succ n ih =>
      intro r hr z1 a1 h4 hS hb hL e hfr hm o
      have e1 := nI_1 r
      have eb : z1.2.2 = z.2.2 := hm.2
      have f1 : z1.2.1 (lA z.2.2) = z.2.1 (lA z.2.2) := md_F hm (by simp; omega)
      have f2 : z1.2.1 (78 + (i + 1)) = z.2.1 (78 + (i + 1)) := md_F hm (by simp; omega)
      have hj : 4 * t + r < 1600 := by omega
      have k37 : ∀ a, W[r]? = some a → J 37 0 0 [some (.ref 91), some (.int (nI i)), some (.int (nI s)), some (.int (nI t)), some (.int (nI c)), some (.int (nI r)), some (.int (nI (4 * t + r)))] [.int (nI (4 * t + r)), .int (nI (c + a.1)), .int (nI (4 * s)), .ref (16 + (78 + i)), .ref (16 + sA z.2.2)] (st_h z1) := by
        intro a ha
        have hba := hWB r a ha
        rw [dropw ha] at e
        refine ri_go hJ [40] 90 37 rfl ?_
        refine ⟨_, e8_insert l (AR_sA z.2.2) (AR_lk (i := i) (by omega)) (by omega) z1 (q := 4 * s) (t := c + a.1) (k := 4 * t + r) h4 (by omega) (by omega) (by omega) hL hS hb, ?_⟩
        rintro r' h' ⟨b, z2, rfl, rfl, hL2, hfr2, hm2, hfull⟩
        have hfr3 : ∀ j, (j < 4 * s ∨ 4 * s + 4 ≤ j) → z2.2.1 (sA z.2.2) j = z.2.1 (sA z.2.2) j ∧ z2.2.1 (78 + i) j = z.2.1 (78 + i) j := fun j hj => ⟨by rw [(hfr2 j hj).1, (hfr j hj).1], by rw [(hfr2 j hj).2, (hfr j hj).2]⟩
        refine ⟨fun _ => ?_, fun d => fin z2 _ ?_ hL2 hfr3 (md_tr hm hm2)⟩
        · refine ri_go hJ [2] 90 40 rfl ?_
          have := ih (r + 1) (by omega) z2 _ (by rw [insk_len]; omega) (insk_srt hS) (insk_BD hb (show c + a.1 < 2 ^ 31 by omega) (show 4 * t + r < 2 ^ 31 by omega)) hL2 e hfr3 (md_tr hm hm2) (some (.int (nI (4 * t + r))))
          rw [← e1] at this
          exact this
        · obtain ⟨b3, hb3, hle⟩ := hfull (zb_0.mp (Decidable.not_not.mp d))
          have hl4 : a1.length = 4 := by
            have := (List.getElem?_eq_some_iff.mp hb3).1
            omega
          have efull := insr_full (a := (c + a.1, 4 * t + r)) hl4 hS hb3 hle
          have e : rstF c t (r + 1) (W.drop (r + 1)) (insk 4 a1 (c + a.1, 4 * t + r)) = rstF c t 0 W acc := e
          rw [efull] at e ⊢
          rw [rstF_full _ _ _ hl4 hS b3 hb3 (fun a' ha' => ?_)] at e
          · exact e
          · obtain ⟨j, hjl, ej⟩ := List.getElem_of_mem ha'
            have hj2 : W[r + 1 + j]? = some a' := by
              rw [← List.getElem?_drop, List.getElem?_eq_getElem hjl, ej]
            have := hWS r (r + 1 + j) a a' (by omega) ha hj2
            omega
      have k35 : ∀ a, W[r]? = some a → J 35 0 0 [some (.ref 91), some (.int (nI i)), some (.int (nI s)), some (.int (nI t)), some (.int (nI c)), some (.int (nI r)), some (.int (nI (4 * t + r)))] [.int (z1.2.1 (lA z.2.2) (4 * t + r)), .int (nI c), .int (nI (4 * s)), .ref (16 + (78 + i)), .ref (16 + sA z.2.2)] (st_h z1) := by
        intro a ha
        rw [f1, (hW.1 r a ha (by omega)).1]
        refine ri_go hJ [37] 90 35 rfl ?_
        have := k37 a ha
        rw [← nI_add c a.1] at this
        exact this
      have k27 : ∀ a, W[r]? = some a → J 27 0 0 [some (.ref 91), some (.int (nI i)), some (.int (nI s)), some (.int (nI t)), some (.int (nI c)), some (.int (nI r)), some (.int (nI (4 * t + r)))] [.ref (16 + (78 + i)), .ref (16 + sA z.2.2)] (st_h z1) := by
        intro a ha
        refine ri_go hJ [34] 90 27 rfl ?_
        have := J_aget hJ (k := 34) rfl (AR_lA z.2.2) hj (k35 a ha)
        rw [← lA_r, ← eb, ← mul4] at this
        rw [eb] at this
        rw [← eb]
        rw [← eb] at this
        exact this
      have k19 : J 19 0 0 [some (.ref 91), some (.int (nI i)), some (.int (nI s)), some (.int (nI t)), some (.int (nI c)), some (.int (nI r)), some (.int (nI (4 * t + r)))] [.int (z1.2.1 (78 + (i + 1)) (4 * t + r))] (st_h z1) := by
        refine ri_go hJ [26] 90 19 rfl ?_
        rw [f2]
        refine ⟨fun d => ?_, fun d => ?_⟩
        · have d : z.2.1 (78 + (i + 1)) (4 * t + r) = -1 := d
          have hge : W.length ≤ r := by
            rcases Nat.lt_or_ge r W.length with h | h
            · have := (hW.1 r _ (List.getElem?_eq_getElem h) (by omega)).2
              rw [d] at this
              exact absurd this.symm (nI_m1 (hWB r _ (List.getElem?_eq_getElem h)).2)
            · exact h
          rw [List.drop_of_length_le hge] at e
          exact fin z1 a1 e hL hfr hm
        · have d : ¬ z.2.1 (78 + (i + 1)) (4 * t + r) = -1 := d
          obtain ⟨a, ha⟩ : ∃ a, W[r]? = some a := by
            rcases Nat.lt_or_ge r W.length with h | h
            · exact ⟨_, List.getElem?_eq_getElem h⟩
            · exact absurd (hW.2 r h (by omega)) d
          have := J_link hJ (k := 26) rfl (i := i) (by omega) (k27 a ha)
          rw [← sA_r, ← eb] at this
          exact this
      have k17 : J 17 0 0 [some (.ref 91), some (.int (nI i)), some (.int (nI s)), some (.int (nI t)), some (.int (nI c)), some (.int (nI r)), some (.int (nI (4 * t + r)))] [.ref (16 + (78 + (i + 1)))] (st_h z1) := by
        refine ri_go hJ [18] 90 17 rfl ?_
        exact J_aget hJ rfl (AR_lk (i := i + 1) hi) hj k19
      refine ri_go hJ [16] 90 2 rfl ?_
      refine ⟨fun c => absurd c (nI_ge (a := r) (b := 4) (by omega) (by decide)), fun _ => ?_⟩
      have := J_link hJ (k := 16) rfl (i := i + 1) hi k17
      rw [← ix4, ← nI_1] at this
      exact this
  refine ri_run_ok hJ [2] 90 0 0 0 _ _ _ ?_
  exact loop 4 0 rfl z acc h4 hS hb hL (by rw [List.drop_zero]) (fun j _ => ⟨rfl, rfl⟩) (md_rf _ _) none
