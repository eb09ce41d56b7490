/-! Reach: which states go on to the end -/
def goF (T : tT) : Nat → Nat → Nat → Bool
  | 0, _, _ => true
  | n + 1, i, x => (stL T (i + 1)).any (fun y => goF T n (i + 1) y && alw T x y)
def goes (T : tT) (i x : Nat) : Bool := goF T (T 8 2 - 1 - i) i x
def MG (z : st_T) (T : tT) (i : Nat) : Prop := ∀ s x, (stL T i)[s]? = some x → z.2.1 (25 + 3 * i) s &&& 2 = bit (goes T i x) 2
theorem bit2_0 {b : Bool} : ¬ bit b 2 = 0 ↔ b = true := by cases b <;> decide
/-- what goesOn asks of the place behind -/
def PA (z : st_T) (T : tT) (i : Nat) : Prop := i + 1 < T 8 2 → LY z (23 + 3 * (i + 1)) (stL T (i + 1)) ∧ (stL T (i + 1)).length ≤ 400 ∧ MG z T (i + 1)
theorem goes_last {T : tT} {i x : Nat} (h : i + 1 = T 8 2) : goes T i x = true := by
  unfold goes
  rw [show T 8 2 - 1 - i = 0 by omega]; rfl
theorem goes_step {T : tT} {i x : Nat} (h : i + 1 < T 8 2) : goes T i x = (stL T (i + 1)).any (fun y => goes T (i + 1) y && alw T x y) := by
  unfold goes
  rw [show T 8 2 - 1 - i = (T 8 2 - 1 - (i + 1)) + 1 by omega, goF]
theorem e6_goesOn (l : Launch) (z : st_T) (T : tT) (hW : TW T) (hS : RS z T) (hR : RH z T) {i x : Nat} (hi : i < T 8 2) (hx : CK x) (hA : PA z T i) : ri_Ev l y6_goesOn w6_goesOn r6_goesOn 0 0 [.ref 87, .int (nI i), .int (nI x)] (st_h z) (ri_zi (zb (goes T i x)) fun z' => md sc3 z z') := by
  refine ri_ev (t6_goesOn l _) rfl rfl rfl (Nat.le_of_ble_eq_true rfl) rfl (z6_goesOn l _) (fun J hJ => ?_)
  have hn := hW.1
  refine ri_run_ok hJ [13, 17] 90 0 0 0 _ _ _ ?_
  refine ⟨_, e0_isLastN l z T hW hS (by omega), ?_⟩
  rintro r h' ⟨rfl, rfl⟩
  refine ⟨fun c => ?_, fun c => ⟨rfl, ?_, z, rfl, md_rf _ _⟩⟩
  · have hl := zb_0.mp c
    unfold lastP at hl
    have hl : i + 1 < T 8 2 := by
      rcases Nat.lt_or_ge (i + 1) (T 8 2) with h | h
      · exact h
      · rw [eq_b (by omega)] at hl; cases hl
    obtain ⟨hB, h4, hG⟩ := hA hl
    have hp := lyP_of (i := i + 1) (by omega)
    have loop : ∀ n s, n + s = (stL T (i + 1)).length → goes T i x = ((stL T (i + 1)).drop s).any (fun y => goes T (i + 1) y && alw T x y) → ∀ z1, md sc3 z z1 → J 17 0 0 [some (.ref 87), some (.int (nI i)), some (.int (nI x)), some (.ref (16 + (23 + 3 * (i + 1)))), some (.int (nI s))] [] (st_h z1) := by
      intro n
      induction n with
      | zero =>
        intro s hs e z1 hm
        have hB1 := LY_sc hB hp hm
        have k20 : J 20 0 0 [some (.ref 87), some (.int (nI i)), some (.int (nI x)), some (.ref (16 + (23 + 3 * (i + 1)))), some (.int (nI s))] [.int (nI (stL T (i + 1)).length), .int (nI s)] (st_h z1) := by
          refine ri_go hJ [] 90 20 rfl ?_
          refine ⟨fun _ => ⟨rfl, ?_, z1, rfl, hm⟩, fun c => absurd (nI_le (by omega) (by omega)) c⟩
          rw [e, List.drop_of_length_le (by omega)]; rfl
        refine ri_go hJ [19] 90 17 rfl ?_
        exact J_lcall hJ (as := []) (rest := [.int (nI s)]) rfl (ly_obj hp z1) (e5_keptN l z1 hp hB1 h4) rfl rfl rfl rfl (fun r h' hr => by obtain ⟨rfl, rfl⟩ := hr; exact k20)
      | succ n ih =>
        intro s hs e z1 hm
        have e1 := nI_1 s
        have hB1 := LY_sc hB hp hm
        obtain ⟨y, hy⟩ : ∃ y, (stL T (i + 1))[s]? = some y := ⟨_, List.getElem?_eq_getElem (by omega)⟩
        have hok := okS_CK (stL_at hy)
        have hR1 := RH_md hR hm sc3_H
        have hmk : z1.2.1 (23 + 3 * (i + 1) + 2) s &&& 2 = bit (goes T (i + 1) y) 2 := by
          rw [md_F hm (by simp [sc3]; omega), show 23 + 3 * (i + 1) + 2 = 25 + 3 * (i + 1) by omega]; exact hG s y hy
        have hcd : z1.2.1 (23 + 3 * (i + 1) + 1) s = nI y := hB1.2 s y hy (by omega)
        rw [drop_cons hy, List.any_cons] at e
        have k37 : (goes T (i + 1) y && alw T x y) = false → ∀ z2, md sc3 z z2 → J 37 0 0 [some (.ref 87), some (.int (nI i)), some (.int (nI x)), some (.ref (16 + (23 + 3 * (i + 1)))), some (.int (nI s))] [] (st_h z2) := by
          intro hf z2 hm2
          refine ri_go hJ [17] 90 37 rfl ?_
          have := ih (s + 1) (by omega) (by rw [e, hf, Bool.false_or]) z2 hm2
          rw [← e1] at this
          exact this
        have k33 : goes T (i + 1) y = true → J 33 0 0 [some (.ref 87), some (.int (nI i)), some (.int (nI x)), some (.ref (16 + (23 + 3 * (i + 1)))), some (.int (nI s))] [.int (z1.2.1 (23 + 3 * (i + 1) + 1) s), .int (nI x), .ref 34] (st_h z1) := by
          intro hc
          rw [hcd]
          refine ri_go hJ [37] 90 33 rfl ?_
          refine ⟨_, e3_allow l z1 T hR1 hx hok, ?_⟩
          rintro r h' ⟨rfl, rfl⟩
          have hm2 : md sc3 z (lkz z1 x y) := md_tr hm (md_lkz z1 x y)
          refine ⟨fun c => k37 ?_ _ hm2, fun c => ⟨rfl, ?_, _, rfl, hm2⟩⟩
          · rw [zb_0.mp c, Bool.and_false]
          · rw [e, hc, zb_1.mp c]; rfl
        have k25 : J 25 0 0 [some (.ref 87), some (.int (nI i)), some (.int (nI x)), some (.ref (16 + (23 + 3 * (i + 1)))), some (.int (nI s))] [.int (zb (decide (¬ z1.2.1 (23 + 3 * (i + 1) + 2) s &&& 2 = 0)))] (st_h z1) := by
          rw [hmk, show decide (¬ bit (goes T (i + 1) y) 2 = 0) = goes T (i + 1) y by cases goes T (i + 1) y <;> rfl]
          refine ri_go hJ [37, 30] 90 25 rfl ?_
          refine ⟨fun c => k37 ?_ _ hm, fun c => ?_⟩
          · rw [zb_0.mp c]; rfl
          · refine J_codes hJ rfl hp ?_
            refine ri_go hJ [32] 90 31 rfl ?_
            exact J_code hJ rfl hp (by omega) (k33 (zb_1.mp c))
        have k20 : J 20 0 0 [some (.ref 87), some (.int (nI i)), some (.int (nI x)), some (.ref (16 + (23 + 3 * (i + 1)))), some (.int (nI s))] [.int (nI (stL T (i + 1)).length), .int (nI s)] (st_h z1) := by
          refine ri_go hJ [24] 90 20 rfl ?_
          refine ⟨fun c => absurd c (nI_ge (by omega) (by omega)), fun _ => ?_⟩
          exact J_lcall hJ (as := [.int (nI s), .int 2]) (rest := []) rfl (ly_obj hp z1) (e5_isMarked l z1 hp (by omega)) rfl rfl rfl rfl (fun r h' hr => by obtain ⟨rfl, rfl⟩ := hr; exact k25)
        refine ri_go hJ [19] 90 17 rfl ?_
        exact J_lcall hJ (as := []) (rest := [.int (nI s)]) rfl (ly_obj hp z1) (e5_keptN l z1 hp hB1 h4) rfl rfl rfl rfl (fun r h' hr => by obtain ⟨rfl, rfl⟩ := hr; exact k20)
    have e : nI i + 1 = nI (i + 1) := nI_1 i
    have k14 : J 14 0 0 [some (.ref 87), some (.int (nI i)), some (.int (nI x)), none, none] [.ref (16 + (23 + 3 * (i + 1)))] (st_h z) := by
      refine ri_go hJ [17] 90 14 rfl ?_
      exact loop (stL T (i + 1)).length 0 (Nat.add_zero _) (by rw [List.drop_zero, goes_step hl]) z (md_rf _ _)
    have := J_layer hJ (k := 13) rfl (i := i + 1) (by omega) k14
    rw [← e] at this
    exact this
  · have hl := zb_1.mp c
    unfold lastP at hl
    rw [goes_last (by simpa using hl)]; rfl
/-- both marks -/
def M3 (z : st_T) (T : tT) (i : Nat) : Prop := ∀ s x, (stL T i)[s]? = some x → z.2.1 (25 + 3 * i) s = zb (come T i x) ||| bit (goes T i x) 2
theorem M3_MK {z : st_T} {T : tT} {i : Nat} (h : M3 z T i) : MK z T i := fun s x hx => by
  rw [h s x hx]; cases come T i x <;> cases goes T i x <;> decide
theorem M3_MG {z : st_T} {T : tT} {i : Nat} (h : M3 z T i) : MG z T i := fun s x hx => by
  rw [h s x hx]; cases come T i x <;> cases goes T i x <;> decide
set_option maxHeartbeats 2000000 in
theorem e6_markGoingOn (l : Launch) (z : st_T) (T : tT) (hW : TW T) (hS : RS z T) (hR : RH z T) (hB : TB z T (T 8 2)) (h4 : FEW T) (hX : ∀ i, i < T 8 2 → MX z T i) : ri_Ev l y6_markGoingOn w6_markGoingOn r6_markGoingOn 0 0 [.ref 87] (st_h z) (ri_zx fun z' => (∀ i, i < T 8 2 → M3 z' T i) ∧ md mdM z z') := by
  refine ri_ev (t6_markGoingOn l _) rfl rfl rfl (Nat.le_of_ble_eq_true rfl) rfl (z6_markGoingOn l _) (fun J hJ => ?_)
  have hn := hW.1
  have outer : ∀ i, i ≤ T 8 2 → ∀ z1, (∀ j, i ≤ j → j < T 8 2 → M3 z1 T j) → (∀ j, j < i → MX z1 T j) → md mdM z z1 → ∀ o2 o3, J 6 0 0 [some (.ref 87), some (.int (nI i + (-1))), o2, o3] [] (st_h z1) := by
    intro i
    induction i with
    | zero =>
      intro _ z1 h3 hX1 hm o2 o3
      refine ri_go hJ [] 90 6 rfl ?_
      exact ⟨fun _ => ⟨rfl, z1, rfl, fun j hj => h3 j (by omega) hj, hm⟩, fun c => absurd (by decide) c⟩
    | succ i ih =>
      intro hi z1 h3 hX1 hm o2 o3
      rw [pk_m1]
      have hi16 : i < 16 := by omega
      have hp := lyP_of hi16
      have hBB : ∀ z2, md mdM z z2 → ∀ j, j < T 8 2 → LY z2 (23 + 3 * j) (stL T j) := fun z2 hm2 j hj => LY_md (hB j hj) hm2 (mdM_no j (by omega)).1 (mdM_no j (by omega)).2
      have h4i := h4 i (by omega)
      have inner : ∀ n s, n + s = (stL T i).length → ∀ z2, (∀ j, i + 1 ≤ j → j < T 8 2 → M3 z2 T j) → (∀ j, j < i → MX z2 T j) → (∀ s' x, s' < s → (stL T i)[s']? = some x → z2.2.1 (25 + 3 * i) s' = zb (come T i x) ||| bit (goes T i x) 2) → (∀ s' x, s ≤ s' → (stL T i)[s']? = some x → z2.2.1 (25 + 3 * i) s' = zb (come T i x)) → md mdM z z2 → J 16 0 0 [some (.ref 87), some (.int (nI i)), some (.ref (16 + (23 + 3 * i))), some (.int (nI s))] [] (st_h z2) := by
        intro n
        induction n with
        | zero =>
          intro s hs z2 h32 hX2 hlo hhi hm2
          have hB2 := hBB z2 hm2 i (by omega)
          have k19 : J 19 0 0 [some (.ref 87), some (.int (nI i)), some (.ref (16 + (23 + 3 * i))), some (.int (nI s))] [.int (nI (stL T i).length), .int (nI s)] (st_h z2) := by
            refine ri_go hJ [6] 90 19 rfl ?_
            refine ⟨fun _ => ih (by omega) z2 (fun j h1 h2 => ?_) (fun j hj => hX2 j hj) hm2 _ _, fun c => absurd (nI_le (by omega) (by omega)) c⟩
            by_cases hj : j = i
            · subst hj
              intro s' x hx
              have := (List.getElem?_eq_some_iff.mp hx).1
              exact hlo s' x (by omega) hx
            · exact h32 j (by omega) h2
          refine ri_go hJ [18] 90 16 rfl ?_
          exact J_lcall hJ (as := []) (rest := [.int (nI s)]) rfl (ly_obj hp z2) (e5_keptN l z2 hp hB2 h4i) rfl rfl rfl rfl (fun r h' hr => by obtain ⟨rfl, rfl⟩ := hr; exact k19)
        | succ n ihn =>
          intro s hs z2 h32 hX2 hlo hhi hm2
          have e1 := nI_1 s
          have hB2 := hBB z2 hm2 i (by omega)
          obtain ⟨x, hx⟩ : ∃ x, (stL T i)[s]? = some x := ⟨_, List.getElem?_eq_getElem (by omega)⟩
          have hok := okS_CK (stL_at hx)
          have hR2 := RH_md hR hm2 mdM_H
          have hS2 := RS_md hS hm2 mdM_S
          have hcd : z2.2.1 (23 + 3 * i + 1) s = nI x := hB2.2 s x hx (by omega)
          have hA2 : PA z2 T i := fun hl => ⟨hBB z2 hm2 (i + 1) hl, h4 (i + 1) hl, M3_MG (h32 (i + 1) (by omega) hl)⟩
          have k36 : ∀ z3, (∀ j, i + 1 ≤ j → j < T 8 2 → M3 z3 T j) → (∀ j, j < i → MX z3 T j) → (∀ s' x, s' < s + 1 → (stL T i)[s']? = some x → z3.2.1 (25 + 3 * i) s' = zb (come T i x) ||| bit (goes T i x) 2) → (∀ s' x, s + 1 ≤ s' → (stL T i)[s']? = some x → z3.2.1 (25 + 3 * i) s' = zb (come T i x)) → md mdM z z3 → J 36 0 0 [some (.ref 87), some (.int (nI i)), some (.ref (16 + (23 + 3 * i))), some (.int (nI s))] [] (st_h z3) := by
            intro z3 a b c d e
            refine ri_go hJ [16] 90 36 rfl ?_
            have := ihn (s + 1) (by omega) z3 a b c d e
            rw [← e1] at this
            exact this
          have k26 : J 26 0 0 [some (.ref 87), some (.int (nI i)), some (.ref (16 + (23 + 3 * i))), some (.int (nI s))] [.int (z2.2.1 (23 + 3 * i + 1) s), .int (nI i), .ref 87] (st_h z2) := by
            rw [hcd]
            refine ri_go hJ [29, 36] 90 26 rfl ?_
            refine ⟨_, e6_goesOn l z2 T hW hS2 hR2 (by omega) hok hA2, ?_⟩
            rintro r h' ⟨rfl, z3, rfl, hm3⟩
            have f3 : ∀ p, 23 ≤ p → z3.2.1 p = z2.2.1 p := fun p hp => md_F hm3 (by simp [sc3]; omega)
            have hm4 : md mdM z z3 := md_tr hm2 (md_mo hm3 (by decide))
            have a3 : ∀ j, i + 1 ≤ j → j < T 8 2 → M3 z3 T j := fun j h1 h2 s' y hy => by rw [f3 _ (by omega)]; exact h32 j h1 h2 s' y hy
            have b3 : ∀ j, j < i → MX z3 T j := fun j h1 s' y hy => by rw [f3 _ (by omega)]; exact hX2 j h1 s' y hy
            refine ⟨fun c => k36 z3 a3 b3 (fun s' y h1 hy => ?_) (fun s' y h1 hy => ?_) hm4, fun c => ?_⟩
            · rw [f3 _ (by omega)]
              by_cases hss : s' = s
              · subst hss
                rw [hx] at hy
                cases hy
                rw [hhi s' x (Nat.le_refl _) hx, zb_0.mp c]
                cases come T i x <;> decide
              · exact hlo s' y (by omega) hy
            · rw [f3 _ (by omega)]; exact hhi s' y (by omega) hy
            · have hg := zb_1.mp c
              have ems : z3.2.1 (23 + 3 * i + 2) s = zb (come T i x) := by
                rw [show 23 + 3 * i + 2 = 25 + 3 * i by omega, f3 _ (by omega)]; exact hhi s x (Nat.le_refl _) hx
              have k33 : J 33 0 0 [some (.ref 87), some (.int (nI i)), some (.ref (16 + (23 + 3 * i))), some (.int (nI s))] [.int (z3.2.1 (23 + 3 * i + 2) s), .int (nI s), .ref (18 + (23 + 3 * i))] (st_h z3) := by
                rw [ems]
                refine ri_go hJ [35] 90 33 rfl ?_
                refine J_setm hJ rfl hp (by omega) ?_
                rw [show 23 + 3 * i + 2 = 25 + 3 * i by omega]
                have g3 : ∀ p, p ≠ 25 + 3 * i → ∀ q, (fa z3 (25 + 3 * i) q).2.1 p = z3.2.1 p := fun p hp q => fa_ne _ _ hp
                refine k36 _ (fun j h1 h2 s' y hy => ?_) (fun j h1 s' y hy => ?_) (fun s' y h1 hy => ?_) (fun s' y h1 hy => ?_) (md_tr hm4 (md_fa (mdM_in i hi16)))
                · rw [g3 _ (by omega)]; exact a3 j h1 h2 s' y hy
                · rw [g3 _ (by omega)]; exact b3 j h1 s' y hy
                · rw [fa_self]
                  by_cases hss : s' = s
                  · subst hss
                    rw [hx] at hy
                    cases hy
                    rw [pk_us, hg]; rfl
                  · rw [pk_un hss, f3 _ (by omega)]
                    exact hlo s' y (by omega) hy
                · rw [fa_self, pk_un (by omega), f3 _ (by omega)]
                  exact hhi s' y (by omega) hy
              refine J_marks hJ rfl hp ?_
              refine ri_go hJ [32] 90 30 rfl ?_
              exact J_mark hJ rfl hp (by omega) k33
          have k19 : J 19 0 0 [some (.ref 87), some (.int (nI i)), some (.ref (16 + (23 + 3 * i))), some (.int (nI s))] [.int (nI (stL T i).length), .int (nI s)] (st_h z2) := by
            refine ri_go hJ [23] 90 19 rfl ?_
            refine ⟨fun c => absurd c (nI_ge (by omega) (by omega)), fun _ => ?_⟩
            refine J_codes hJ rfl hp ?_
            refine ri_go hJ [25] 90 24 rfl ?_
            exact J_code hJ rfl hp (by omega) k26
          refine ri_go hJ [18] 90 16 rfl ?_
          exact J_lcall hJ (as := []) (rest := [.int (nI s)]) rfl (ly_obj hp z2) (e5_keptN l z2 hp hB2 h4i) rfl rfl rfl rfl (fun r h' hr => by obtain ⟨rfl, rfl⟩ := hr; exact k19)
      have k13 : J 13 0 0 [some (.ref 87), some (.int (nI i)), o2, o3] [.ref (16 + (23 + 3 * i))] (st_h z1) := by
        refine ri_go hJ [16] 90 13 rfl ?_
        exact inner (stL T i).length 0 (Nat.add_zero _) z1 (fun j h1 h2 => h3 j h1 h2) (fun j hj => hX1 j (by omega)) (fun s' x h => absurd h (by omega)) (fun s' x _ hx => hX1 i (by omega) s' x hx) hm
      refine ri_go hJ [12] 90 6 rfl ?_
      exact ⟨fun c => absurd c (nI_pos (by omega)), fun _ => J_layer hJ rfl hi16 k13⟩
  refine ri_run_ok hJ [6] 90 0 0 0 _ _ _ ?_
  have := outer (T 8 2) (Nat.le_refl _) z (fun j h1 h2 => absurd h2 (by omega)) hX (md_rf _ _) none none
  rw [show nI (T 8 2) + (-1) = z.1 1 0 - 1 by rw [hS.2.2.2.2.1]; apply Int32.toBitVec_inj.mp; simp [Int32.toBitVec_add, Int32.toBitVec_sub, BitVec.sub_eq_add_neg]] at this
  exact this
