/-! RowSearch: listAlive, gatherRows -/
theorem filt_succ (P : Nat → Bool) (s : Nat) : (List.range (s + 1)).filter P = if P s = true then (List.range s).filter P ++ [s] else (List.range s).filter P := by
  rw [List.range_succ, List.filter_append]
  by_cases h : P s = true
  · rw [if_pos h]; simp [h]
  · rw [if_neg h]; simp [h]
theorem filt_len (P : Nat → Bool) (s : Nat) : ((List.range s).filter P).length ≤ s := by
  have := List.length_filter_le P (List.range s)
  rw [List.length_range] at this
  exact this
theorem fs_ff (z : st_T) {p f g : Nat} {x : Int32} (h : g ≠ f) : (fs z p f x).1 p g = z.1 p g := by
  show va_up z.1 p (va_up (z.1 p) f x) p g = _
  rw [va_up_self, va_up_ne _ _ h]
set_option maxHeartbeats 1000000 in
theorem e8_listAlive (l : Launch) (z : st_T) {i : Nat} {X : List Nat} {P : Nat → Bool} (hi : i < 16) (hX : LY z (23 + 3 * i) X) (hX4 : X.length ≤ 400) (hP : ∀ s, s < X.length → (P s = true ↔ ¬ z.2.1 (78 + i) (4 * s) = -1)) : ri_Ev l y8_listAlive w8_listAlive r8_listAlive 0 0 [.ref 91, .int (nI i)] (st_h z) (ri_zx fun z' => AL z' ((List.range X.length).filter P) ∧ (z'.1 75 13 = z.1 75 13 ∧ z'.1 75 14 = z.1 75 14) ∧ md [75, 96] z z') := by
  refine ri_ev (t8_listAlive l _) rfl rfl rfl (Nat.le_of_ble_eq_true rfl) rfl (z8_listAlive l _) (fun J hJ => ?_)
  have hp := lyP_of hi
  have loop : ∀ n s, n + s = X.length → ∀ z1 : st_T, AL z1 ((List.range s).filter P) → (z1.1 75 13 = z.1 75 13 ∧ z1.1 75 14 = z.1 75 14) → md [75, 96] z z1 → J 5 0 0 [some (.ref 91), some (.int (nI i)), some (.int (nI s))] [] (st_h z1) := by
    intro n
    induction n with
    | zero =>
      intro s hs z1 hA hf hm
      have hX1 := LY_md hX hm (by simp; omega) (by simp; omega)
      have hs2 : s = X.length := by omega
      have k12 : J 12 0 0 [some (.ref 91), some (.int (nI i)), some (.int (nI s))] [.int (nI X.length), .int (nI s)] (st_h z1) := by
        refine ri_go hJ [] 90 12 rfl ?_
        exact ⟨fun _ => ⟨rfl, z1, rfl, by rw [← hs2]; exact hA, hf, hm⟩, fun c => absurd (nI_le (by omega) (by omega)) c⟩
      refine ri_go hJ [10] 90 5 rfl ?_
      refine J_layer hJ rfl hi ?_
      exact J_lcall hJ (as := []) (rest := [.int (nI s)]) rfl (ly_obj hp z1) (e5_keptN l z1 hp hX1 hX4) rfl rfl rfl rfl (fun r h' hr => by obtain ⟨rfl, rfl⟩ := hr; exact k12)
    | succ n ih =>
      intro s hs z1 hA hf hm
      have e1 := nI_1 s
      have hX1 := LY_md hX hm (by simp; omega) (by simp; omega)
      have fL : z1.2.1 (78 + i) = z.2.1 (78 + i) := md_F hm (by simp; omega)
      have hlen := filt_len P s
      have k35 : ∀ z2 : st_T, AL z2 ((List.range (s + 1)).filter P) → (z2.1 75 13 = z.1 75 13 ∧ z2.1 75 14 = z.1 75 14) → md [75, 96] z z2 → J 35 0 0 [some (.ref 91), some (.int (nI i)), some (.int (nI s))] [] (st_h z2) := by
        intro z2 q1 q2 q3
        refine ri_go hJ [5] 90 35 rfl ?_
        have := ih (s + 1) (by omega) z2 q1 q2 q3
        rw [← e1] at this
        exact this
      have k23 : P s = true → J 23 0 0 [some (.ref 91), some (.int (nI i)), some (.int (nI s))] [] (st_h z1) := by
        intro hPs
        have k29 : J 29 0 0 [some (.ref 91), some (.int (nI i)), some (.int (nI s))] [] (st_h (fa z1 96 (upd (z1.2.1 96) ((List.range s).filter P).length (nI s)))) := by
          refine ri_go hJ [35] 90 29 rfl ?_
          refine k35 (fs (fa z1 96 (upd (z1.2.1 96) ((List.range s).filter P).length (nI s))) 75 8 (z1.1 75 8 + 1)) ?_ ?_ (md_tr hm (md_tr (md_fa (by simp)) (md_fs (by simp))))
          · rw [filt_succ, if_pos hPs]
            refine ⟨?_, fun n t hn h4 => ?_⟩
            · rw [fs_self, hA.1, nI_1, List.length_append]; rfl
            · rw [fs_2, fa_self]
              by_cases q : n < ((List.range s).filter P).length
              · rw [pk_un (by omega)]
                rw [List.getElem?_append_left q] at hn
                exact hA.2 n t hn h4
              · have hl := (List.getElem?_eq_some_iff.mp hn).1
                rw [List.length_append] at hl
                have hl : n < ((List.range s).filter P).length + 1 := hl
                have e : n = ((List.range s).filter P).length := by omega
                rw [e, List.getElem?_append_right (Nat.le_refl _), Nat.sub_self] at hn
                cases hn
                rw [e, pk_us]
          · rw [fs_ff _ (by decide), fs_ff _ (by decide)]; exact hf
        refine ri_go hJ [28] 90 23 rfl ?_
        have := J_aset hJ (k := 28) rfl AR_96 (by omega) k29
        rw [← hA.1] at this
        exact this
      have k21 : J 21 0 0 [some (.ref 91), some (.int (nI i)), some (.int (nI s))] [.int (z1.2.1 (78 + i) (4 * s))] (st_h z1) := by
        rw [fL]
        refine ri_go hJ [35, 23] 90 21 rfl ?_
        refine ⟨fun c => k35 z1 ?_ hf hm, fun c => k23 ((hP s (by omega)).mpr c)⟩
        rw [filt_succ, if_neg (fun q => (hP s (by omega)).mp q c)]
        exact hA
      have k17 : J 17 0 0 [some (.ref 91), some (.int (nI i)), some (.int (nI s))] [.ref (16 + (78 + i))] (st_h z1) := by
        refine ri_go hJ [20] 90 17 rfl ?_
        have := J_aget hJ (k := 20) rfl (AR_lk hi) (by omega) k21
        rw [← mul4] at this
        exact this
      have k12 : J 12 0 0 [some (.ref 91), some (.int (nI i)), some (.int (nI s))] [.int (nI X.length), .int (nI s)] (st_h z1) := by
        refine ri_go hJ [16] 90 12 rfl ?_
        exact ⟨fun c => absurd c (nI_ge (by omega) (by omega)), fun _ => J_link hJ rfl hi k17⟩
      refine ri_go hJ [10] 90 5 rfl ?_
      refine J_layer hJ rfl hi ?_
      exact J_lcall hJ (as := []) (rest := [.int (nI s)]) rfl (ly_obj hp z1) (e5_keptN l z1 hp hX1 hX4) rfl rfl rfl rfl (fun r h' hr => by obtain ⟨rfl, rfl⟩ := hr; exact k12)
  refine ri_run_ok hJ [5] 90 0 0 0 _ _ _ ?_
  refine loop X.length 0 (Nat.add_zero _) (fs z 75 8 0) ⟨?_, fun n t h => by simp at h⟩ ⟨fs_ff _ (by decide), fs_ff _ (by decide)⟩ (md_fs (by simp))
  rw [fs_self]; rfl
/-- the rows' beginnings in order -/
def gth (W : Nat → wy) : List Nat → wy → wy
  | [], acc => acc
  | t :: A, acc => gth W A (rstF 0 t 0 (W t) acc)
set_option maxHeartbeats 1000000 in
theorem e8_gatherRows (l : Launch) (z : st_T) {A : List Nat} {W : Nat → wy} {B : Nat} (hB : B < 2 ^ 30) (hA : AL z A) (hA4 : A.length ≤ 400) (hK : ∀ t, t ∈ A → t < 400 ∧ WO B (W t) ∧ RW (z.2.1 (sA z.2.2)) (z.2.1 78) (4 * t) (W t)) : ri_Ev l y8_gatherRows w8_gatherRows r8_gatherRows 0 0 [.ref 91] (st_h z) (ri_zx fun z' => RW (z'.2.1 99) (z'.2.1 98) 0 (gth W A []) ∧ WO B (gth W A []) ∧ md [98, 99] z z') := by
  refine ri_ev (t8_gatherRows l _) rfl rfl rfl (Nat.le_of_ble_eq_true rfl) rfl (z8_gatherRows l _) (fun J hJ => ?_)
  have hsv := sA_v z.2.2
  have outer : ∀ m n, m + n = A.length → ∀ (z1 : st_T) (a1 : wy), WO B a1 → RW (z1.2.1 99) (z1.2.1 98) 0 a1 → gth W (A.drop n) a1 = gth W A [] → md [98, 99] z z1 → ∀ o2 o3, J 6 0 0 [some (.ref 91), some (.int (nI n)), o2, o3] [] (st_h z1) := by
    intro m
    induction m with
    | zero =>
      intro n hn z1 a1 hO hL e hm o2 o3
      rw [List.drop_of_length_le (by omega)] at e
      have e : a1 = gth W A [] := e
      refine ri_go hJ [] 90 6 rfl ?_
      refine ⟨fun _ => ⟨rfl, z1, rfl, by rw [← e]; exact hL, by rw [← e]; exact hO, hm⟩, fun c => absurd (show z1.1 75 8 ≤ nI n from ?_) c⟩
      rw [(hm.1 75 (by simp)).1, hA.1]; exact nI_le (by omega) (by omega)
    | succ m ih =>
      intro n hn z1 a1 hO hL e hm o2 o3
      have e1 := nI_1 n
      obtain ⟨t, ht⟩ : ∃ t, A[n]? = some t := ⟨_, List.getElem?_eq_getElem (by omega)⟩
      obtain ⟨t4, tO, tR⟩ := hK t (List.mem_of_getElem? ht)
      rw [drop_cons ht] at e
      have e : gth W (A.drop (n + 1)) (rstF 0 t 0 (W t) a1) = gth W A [] := e
      have inner : ∀ q r, q + r = 4 → ∀ (z2 : st_T) (a2 : wy), WO B a2 → RW (z2.2.1 99) (z2.2.1 98) 0 a2 → rstF 0 t r ((W t).drop r) a2 = rstF 0 t 0 (W t) a1 → md [98, 99] z z2 → ∀ o3, J 12 0 0 [some (.ref 91), some (.int (nI n)), some (.int (nI r)), o3] [] (st_h z2) := by
        intro q
        induction q with
        | zero =>
          intro r hr z2 a2 hO2 hL2 e2 hm2 o3
          have hr4 : r = 4 := by omega
          subst hr4
          rw [List.drop_of_length_le tO.1] at e2
          have e2 : a2 = rstF 0 t 0 (W t) a1 := e2
          refine ri_go hJ [6] 90 12 rfl ?_
          refine ⟨fun _ => ?_, fun c => absurd (by decide) c⟩
          have := ih (n + 1) (by omega) z2 a2 hO2 hL2 (by rw [e2]; exact e) hm2 (some (.int (nI 4))) o3
          rw [← e1] at this
          exact this
        | succ q ihq =>
          intro r hr z2 a2 hO2 hL2 e2 hm2 o3
          have e1r := nI_1 r
          have eb : z2.2.2 = z.2.2 := hm2.2
          have f7 : z2.2.1 78 = z.2.1 78 := md_F hm2 (by simp)
          have fs2 : z2.2.1 (sA z.2.2) = z.2.1 (sA z.2.2) := md_F hm2 (by simp; omega)
          have fa2 : z2.2.1 96 n = nI t := by rw [md_F hm2 (by simp)]; exact hA.2 n t ht (by omega)
          have k44 : ∀ (z3 : st_T) (a3 : wy), WO B a3 → RW (z3.2.1 99) (z3.2.1 98) 0 a3 → rstF 0 t (r + 1) ((W t).drop (r + 1)) a3 = rstF 0 t 0 (W t) a1 → md [98, 99] z z3 → ∀ o3, J 44 0 0 [some (.ref 91), some (.int (nI n)), some (.int (nI r)), o3] [] (st_h z3) := by
            intro z3 a3 q1 q2 q3 q4 o3
            refine ri_go hJ [12] 90 44 rfl ?_
            have := ihq (r + 1) (by omega) z3 a3 q1 q2 q3 q4 o3
            rw [← e1r] at this
            exact this
          have k41 : ∀ a, (W t)[r]? = some a → J 41 0 0 [some (.ref 91), some (.int (nI n)), some (.int (nI r)), some (.int (nI (4 * t + r)))] [.int (z2.2.1 (sA z.2.2) (4 * t + r)), .int 0, .ref 114, .ref 115] (st_h z2) := by
            intro a ha
            rw [fs2, (tR.1 r a ha (by omega)).1]
            have hba := tO.2.2 r a ha
            rw [dropw ha] at e2
            refine ri_go hJ [44] 90 41 rfl ?_
            refine ⟨_, e8_insert l AR_99 AR_98 (by decide) z2 (q := 0) (t := a.1) (k := 4 * t + r) hO2.1 (by decide) (by decide) (by omega) hL2 hO2.2.1 (BD_mono hO2.2.2 (by omega)), ?_⟩
            rintro r' h' ⟨b, z3, rfl, rfl, hL3, hfr3, hm3, hfull⟩
            have e2 : rstF 0 t (r + 1) ((W t).drop (r + 1)) (insk 4 a2 (0 + a.1, 4 * t + r)) = rstF 0 t 0 (W t) a1 := e2
            rw [Nat.zero_add] at e2
            exact k44 z3 (insk 4 a2 (a.1, 4 * t + r)) ⟨by rw [insk_len]; omega, insk_srt hO2.2.1, insk_BD (a := (a.1, 4 * t + r)) hO2.2.2 hba.1 (show 4 * t + r < 2 ^ 31 by omega)⟩ hL3 e2 (md_tr hm2 (md_mo hm3 (by simp))) _
          have k30 : J 30 0 0 [some (.ref 91), some (.int (nI n)), some (.int (nI r)), some (.int (nI (4 * t + r)))] [.int (z2.2.1 78 (4 * t + r))] (st_h z2) := by
            rw [f7]
            refine ri_go hJ [44, 40] 90 30 rfl ?_
            refine ⟨fun c => ?_, fun c => ?_⟩
            · have c : z.2.1 78 (4 * t + r) = -1 := c
              have hge : (W t).length ≤ r := by
                rcases Nat.lt_or_ge r (W t).length with h | h
                · have := (tR.1 r _ (List.getElem?_eq_getElem h) (by omega)).2
                  rw [c] at this
                  exact absurd this.symm (nI_m1 (tO.2.2 r _ (List.getElem?_eq_getElem h)).2)
                · exact h
              rw [List.drop_of_length_le hge] at e2
              refine k44 z2 a2 hO2 hL2 ?_ hm2 _
              rw [List.drop_of_length_le (by omega)]
              exact e2
            · have c : ¬ z.2.1 78 (4 * t + r) = -1 := c
              obtain ⟨a, ha⟩ : ∃ a, (W t)[r]? = some a := by
                rcases Nat.lt_or_ge r (W t).length with h | h
                · exact ⟨_, List.getElem?_eq_getElem h⟩
                · exact absurd (tR.2 r h (by omega)) c
              have := J_aget hJ (k := 40) rfl (AR_sA z.2.2) (by omega) (k41 a ha)
              rw [← sA_r, ← eb] at this
              exact this
          have k28 : J 28 0 0 [some (.ref 91), some (.int (nI n)), some (.int (nI r)), some (.int (nI (4 * t + r)))] [.ref (16 + (78 + 0))] (st_h z2) := by
            refine ri_go hJ [29] 90 28 rfl ?_
            exact J_aget hJ rfl (AR_lk (i := 0) (by decide)) (by omega) k30
          have k19 : J 19 0 0 [some (.ref 91), some (.int (nI n)), some (.int (nI r)), o3] [.int (z2.2.1 96 n)] (st_h z2) := by
            rw [fa2]
            refine ri_go hJ [27] 90 19 rfl ?_
            have := J_link hJ (k := 27) rfl (i := 0) (by decide) k28
            rw [← ix4] at this
            exact this
          refine ri_go hJ [18] 90 12 rfl ?_
          exact ⟨fun c => absurd c (nI_ge (a := r) (b := 4) (by omega) (by decide)), fun _ => J_aget hJ rfl AR_96 (by omega) k19⟩
      refine ri_go hJ [12] 90 6 rfl ?_
      refine ⟨fun c => absurd (show z1.1 75 8 ≤ nI n from c) ?_, fun _ => inner 4 0 rfl z1 a1 hO hL (by rw [List.drop_zero]) hm o3⟩
      rw [(hm.1 75 (by simp)).1, hA.1]; exact nI_ge (by omega) (by omega)
  refine ri_run_ok hJ [4] 90 0 0 0 _ _ _ ?_
  refine ⟨_, e15_fill l AR_98 z (-1), ?_⟩
  rintro r h' ⟨rfl, z1, rfl, hf, hm⟩
  refine ri_go hJ [6] 90 4 rfl ?_
  exact outer A.length 0 (Nat.add_zero _) z1 [] (WO_nil B) ⟨fun j a ha => by simp at ha, fun j _ hj => hf _ (by omega)⟩ (by rw [List.drop_zero]) (md_mo hm (by simp)) none none
