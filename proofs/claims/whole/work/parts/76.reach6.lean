/-! Reach: barringSteps, barringRules -/
def orL (f : Nat → Int32) : List Nat → Int32
  | [] => 0
  | x :: r => f x ||| orL f r
theorem orL_cons (f : Nat → Int32) (x : Nat) (r : List Nat) : orL f (x :: r) = f x ||| orL f r := rfl
theorem orL_nil (f : Nat → Int32) : orL f [] = 0 := rfl
theorem or_as (a b c : Int32) : (a ||| b) ||| c = a ||| (b ||| c) := by
  apply Int32.toBitVec_inj.mp
  simp [BitVec.or_assoc]
theorem or_0 (a : Int32) : a ||| 0 = a := by
  apply Int32.toBitVec_inj.mp
  simp
theorem z_or (a : Int32) : 0 ||| a = a := by
  apply Int32.toBitVec_inj.mp
  simp
theorem bit_8064 : ∀ a b c d e f : Bool, (8064 : Int32) ||| (((((bit a 128 ||| bit b 256) ||| bit c 512) ||| bit d 1024) ||| bit e 2048) ||| bit f 4096) = 8064 := by decide
theorem brs_all (T : tT) (x y : Nat) : (8064 : Int32) ||| brs T x y = 8064 := bit_8064 _ _ _ _ _ _
theorem orL_all {f : Nat → Int32} (h : ∀ x, (8064 : Int32) ||| f x = 8064) : ∀ L, (8064 : Int32) ||| orL f L = 8064
  | [] => or_0 _
  | x :: r => by
    show (8064 : Int32) ||| (f x ||| orL f r) = _
    rw [← or_as, h, orL_all h r]
theorem e6_barringSteps (l : Launch) (z : st_T) (T : tT) (hR : RH z T) {i x : Nat} (hi : i < 16) (hx : CK x) (hB : LY z (23 + 3 * i) (stL T i)) (h4 : (stL T i).length ≤ 400) : ri_Ev l y6_barringSteps w6_barringSteps r6_barringSteps 0 0 [.ref 87, .int (nI x), .ref (16 + (23 + 3 * i))] (st_h z) (ri_zi (orL (brs T x) (stL T i)) fun z' => md sc3 z z') := by
  refine ri_ev (t6_barringSteps l _) rfl rfl rfl (Nat.le_of_ble_eq_true rfl) rfl (z6_barringSteps l _) (fun J hJ => ?_)
  have hp := lyP_of hi
  have k24 : ∀ a z1 o, a = orL (brs T x) (stL T i) → md sc3 z z1 → J 24 0 0 [some (.ref 87), some (.int (nI x)), some (.ref (16 + (23 + 3 * i))), some (.int a), o] [] (st_h z1) := by
    intro a z1 o e hm
    refine ri_go hJ [] 90 24 rfl ?_
    exact ⟨by rw [e], z1, rfl, hm⟩
  have loop : ∀ n s, n + s = (stL T i).length → ∀ a, a ||| orL (brs T x) ((stL T i).drop s) = orL (brs T x) (stL T i) → ∀ z1, md sc3 z z1 → J 4 0 0 [some (.ref 87), some (.int (nI x)), some (.ref (16 + (23 + 3 * i))), some (.int a), some (.int (nI s))] [] (st_h z1) := by
    intro n
    induction n with
    | zero =>
      intro s hs a e z1 hm
      have hB1 := LY_sc hB hp hm
      rw [List.drop_of_length_le (by omega), orL_nil, or_0] at e
      have k7 : J 7 0 0 [some (.ref 87), some (.int (nI x)), some (.ref (16 + (23 + 3 * i))), some (.int a), some (.int (nI s))] [.int (nI (stL T i).length), .int (nI s)] (st_h z1) := by
        refine ri_go hJ [24] 90 7 rfl ?_
        exact ⟨fun _ => k24 a z1 _ e hm, fun c => absurd (nI_le (by omega) (by omega)) c⟩
      refine ri_go hJ [6] 90 4 rfl ?_
      exact J_lcall hJ (as := []) (rest := [.int (nI s)]) rfl (ly_obj hp z1) (e5_keptN l z1 hp hB1 h4) rfl rfl rfl rfl (fun r h' hr => by obtain ⟨rfl, rfl⟩ := hr; exact k7)
    | succ n ih =>
      intro s hs a e z1 hm
      have e1 := nI_1 s
      have hB1 := LY_sc hB hp hm
      obtain ⟨y, hy⟩ : ∃ y, (stL T i)[s]? = some y := ⟨_, List.getElem?_eq_getElem (by omega)⟩
      have hok := okS_CK (stL_at hy)
      have hR1 := RH_md hR hm sc3_H
      have hcd : z1.2.1 (23 + 3 * i + 1) s = nI y := hB1.2 s y hy (by omega)
      have k19 : J 19 0 0 [some (.ref 87), some (.int (nI x)), some (.ref (16 + (23 + 3 * i))), some (.int a), some (.int (nI s))] [.int (z1.2.1 (23 + 3 * i + 1) s), .int (nI x), .ref 34, .int a] (st_h z1) := by
        rw [hcd]
        refine ri_go hJ [4] 90 19 rfl ?_
        refine ⟨_, e3_barring l z1 T hR1 hx hok, ?_⟩
        rintro r h' ⟨rfl, rfl⟩
        have := ih (s + 1) (by omega) (a ||| brs T x y) (by rw [← e, drop_cons hy, orL_cons, or_as]) _ (md_tr hm (md_lkz z1 x y))
        rw [← e1] at this
        exact this
      have k7 : J 7 0 0 [some (.ref 87), some (.int (nI x)), some (.ref (16 + (23 + 3 * i))), some (.int a), some (.int (nI s))] [.int (nI (stL T i).length), .int (nI s)] (st_h z1) := by
        refine ri_go hJ [24, 16] 90 7 rfl ?_
        refine ⟨fun c => absurd c (nI_ge (by omega) (by omega)), fun _ => ⟨fun c => k24 a z1 _ ?_ hm, fun _ => ?_⟩⟩
        · have c : a = 8064 := c
          rw [c, orL_all (brs_all T x)] at e
          rw [c]; exact e
        · refine J_codes hJ rfl hp ?_
          refine ri_go hJ [18] 90 17 rfl ?_
          exact J_code hJ rfl hp (by omega) k19
      refine ri_go hJ [6] 90 4 rfl ?_
      exact J_lcall hJ (as := []) (rest := [.int (nI s)]) rfl (ly_obj hp z1) (e5_keptN l z1 hp hB1 h4) rfl rfl rfl rfl (fun r h' hr => by obtain ⟨rfl, rfl⟩ := hr; exact k7)
  refine ri_run_ok hJ [4] 90 0 0 0 _ _ _ ?_
  exact loop (stL T i).length 0 (Nat.add_zero _) 0 (by rw [List.drop_zero, z_or]) z (md_rf _ _)
/-- the steps from where rows come, at place i + 1 -/
def stpF (T : tT) (i x : Nat) : Int32 := if come T i x = true then orL (brs T x) (stL T (i + 1)) else 0
theorem stpF_all (T : tT) (i x : Nat) : (8064 : Int32) ||| stpF T i x = 8064 := by
  unfold stpF
  by_cases h : come T i x = true
  · rw [if_pos h]; exact orL_all (brs_all T x) _
  · rw [if_neg h]; exact or_0 _
def stp (T : tT) (i : Nat) : Int32 := orL (stpF T i) (stL T i)
theorem e6_barringRules0 (l : Launch) (z : st_T) (T : tT) (hW : TW T) (hS : RS z T) (hR : RH z T) {i : Nat} (hi : i < T 8 2) (hB : LY z (23 + 3 * i) (stL T i)) (h0 : stL T i = []) : ri_Ev l y6_barringRules w6_barringRules r6_barringRules 0 0 [.ref 87, .int (nI i)] (st_h z) (ri_zp (BRn T i 13) fun z' => md md7 z z') := by
  refine ri_ev (t6_barringRules l _) rfl rfl rfl (Nat.le_of_ble_eq_true rfl) rfl (z6_barringRules l _) (fun J hJ => ?_)
  have hn := hW.1
  have hp := lyP_of (i := i) (by omega)
  have hz : z.1 (23 + 3 * i) 0 = 0 := by rw [hB.1, h0]; rfl
  have k8 : J 8 0 0 [some (.ref 87), some (.int (nI i)), some (.ref (16 + (23 + 3 * i))), none, none, none] [.int (z.1 (23 + 3 * i) 0)] (st_h z) := by
    rw [hz]
    refine ri_go hJ [] 90 8 rfl ?_
    refine ⟨fun _ => ?_, fun c => absurd rfl c⟩
    refine ⟨_, e2_barring l z T hW hS hR (by omega), ?_⟩
    rintro r h' ⟨v, z', rfl, rfl, hb, hm⟩
    exact ⟨v, z', rfl, rfl, hb, hm⟩
  have k5 : J 5 0 0 [some (.ref 87), some (.int (nI i)), none, none, none, none] [.ref (16 + (23 + 3 * i))] (st_h z) := by
    refine ri_go hJ [7] 90 5 rfl ?_
    exact J_size hJ rfl hp k8
  refine ri_run_ok hJ [4] 90 0 0 0 _ _ _ ?_
  exact J_layer hJ rfl (by omega) k5
set_option maxHeartbeats 1000000 in
theorem e6_barringRules1 (l : Launch) (z : st_T) (T : tT) (hW : TW T) (hS : RS z T) (hR : RH z T) {i : Nat} (hi : i + 1 < T 8 2) (hB0 : LY z (23 + 3 * i) (stL T i)) (hB : LY z (23 + 3 * (i + 1)) (stL T (i + 1))) (h40 : (stL T i).length ≤ 400) (h41 : (stL T (i + 1)).length ≤ 400) (hM : MK z T i) (hne : ¬ stL T (i + 1) = []) : ri_Ev l y6_barringRules w6_barringRules r6_barringRules 0 0 [.ref 87, .int (nI (i + 1))] (st_h z) (ri_zi (stp T i) fun z' => md sc3 z z') := by
  refine ri_ev (t6_barringRules l _) rfl rfl rfl (Nat.le_of_ble_eq_true rfl) rfl (z6_barringRules l _) (fun J hJ => ?_)
  have hn := hW.1
  have hp := lyP_of (i := i + 1) (by omega)
  have hp0 := lyP_of (i := i) (by omega)
  have hz : ¬ z.1 (23 + 3 * (i + 1)) 0 = 0 := by
    rw [hB.1]
    exact nI_ne0 (List.length_pos_iff.mpr hne) (by omega)
  have k52 : ∀ a z1 o, a = stp T i → md sc3 z z1 → J 52 0 0 [some (.ref 87), some (.int (nI (i + 1))), some (.ref (16 + (23 + 3 * (i + 1)))), some (.ref (16 + (23 + 3 * i))), some (.int a), o] [] (st_h z1) := by
    intro a z1 o e hm
    refine ri_go hJ [] 90 52 rfl ?_
    exact ⟨by rw [e], z1, rfl, hm⟩
  have loop : ∀ n s, n + s = (stL T i).length → ∀ a, a ||| orL (stpF T i) ((stL T i).drop s) = stp T i → ∀ z1, md sc3 z z1 → J 28 0 0 [some (.ref 87), some (.int (nI (i + 1))), some (.ref (16 + (23 + 3 * (i + 1)))), some (.ref (16 + (23 + 3 * i))), some (.int a), some (.int (nI s))] [] (st_h z1) := by
    intro n
    induction n with
    | zero =>
      intro s hs a e z1 hm
      have hB1 := LY_sc hB0 hp0 hm
      rw [List.drop_of_length_le (by omega), orL_nil, or_0] at e
      have k31 : J 31 0 0 [some (.ref 87), some (.int (nI (i + 1))), some (.ref (16 + (23 + 3 * (i + 1)))), some (.ref (16 + (23 + 3 * i))), some (.int a), some (.int (nI s))] [.int (nI (stL T i).length), .int (nI s)] (st_h z1) := by
        refine ri_go hJ [52] 90 31 rfl ?_
        exact ⟨fun _ => k52 a z1 _ e hm, fun c => absurd (nI_le (by omega) (by omega)) c⟩
      refine ri_go hJ [30] 90 28 rfl ?_
      exact J_lcall hJ (as := []) (rest := [.int (nI s)]) rfl (ly_obj hp0 z1) (e5_keptN l z1 hp0 hB1 h40) rfl rfl rfl rfl (fun r h' hr => by obtain ⟨rfl, rfl⟩ := hr; exact k31)
    | succ n ih =>
      intro s hs a e z1 hm
      have e1 := nI_1 s
      have hB1 := LY_sc hB0 hp0 hm
      obtain ⟨x, hx⟩ : ∃ x, (stL T i)[s]? = some x := ⟨_, List.getElem?_eq_getElem (by omega)⟩
      have hok := okS_CK (stL_at hx)
      have hcd : z1.2.1 (23 + 3 * i + 1) s = nI x := hB1.2 s x hx (by omega)
      have hmk : z1.2.1 (23 + 3 * i + 2) s &&& 1 = zb (come T i x) := by
        rw [md_F hm (by simp [sc3]; omega), show 23 + 3 * i + 2 = 25 + 3 * i by omega]; exact hM s x hx
      rw [drop_cons hx, orL_cons] at e
      have k50 : ∀ a', a' ||| orL (stpF T i) ((stL T i).drop (s + 1)) = stp T i → ∀ z2, md sc3 z z2 → J 50 0 0 [some (.ref 87), some (.int (nI (i + 1))), some (.ref (16 + (23 + 3 * (i + 1)))), some (.ref (16 + (23 + 3 * i))), some (.int a'), some (.int (nI s))] [] (st_h z2) := by
        intro a' e2 z2 hm2
        refine ri_go hJ [28] 90 50 rfl ?_
        have := ih (s + 1) (by omega) a' e2 z2 hm2
        rw [← e1] at this
        exact this
      have k46 : come T i x = true → J 46 0 0 [some (.ref 87), some (.int (nI (i + 1))), some (.ref (16 + (23 + 3 * (i + 1)))), some (.ref (16 + (23 + 3 * i))), some (.int a), some (.int (nI s))] [.int (z1.2.1 (23 + 3 * i + 1) s), .ref 87, .int a] (st_h z1) := by
        intro hc
        rw [hcd]
        refine ri_go hJ [50] 90 46 rfl ?_
        refine ⟨_, e6_barringSteps l z1 T (RH_md hR hm sc3_H) (i := i + 1) (by omega) hok (LY_sc hB hp hm) h41, ?_⟩
        rintro r h' ⟨rfl, z2, rfl, hm2⟩
        refine k50 _ ?_ z2 (md_tr hm hm2)
        rw [← e, ← or_as]
        unfold stpF
        rw [if_pos hc]
      have k39 : J 39 0 0 [some (.ref 87), some (.int (nI (i + 1))), some (.ref (16 + (23 + 3 * (i + 1)))), some (.ref (16 + (23 + 3 * i))), some (.int a), some (.int (nI s))] [.int (zb (decide (¬ z1.2.1 (23 + 3 * i + 2) s &&& 1 = 0)))] (st_h z1) := by
        rw [hmk, show decide (¬ zb (come T i x) = 0) = come T i x by cases come T i x <;> rfl]
        refine ri_go hJ [50, 43] 90 39 rfl ?_
        refine ⟨fun c => k50 a ?_ _ hm, fun c => ?_⟩
        · rw [← e]
          unfold stpF
          rw [if_neg (by rw [zb_0.mp c]; decide), z_or]
        · refine J_codes hJ rfl hp0 ?_
          refine ri_go hJ [45] 90 44 rfl ?_
          exact J_code hJ rfl hp0 (by omega) (k46 (zb_1.mp c))
      have k31 : J 31 0 0 [some (.ref 87), some (.int (nI (i + 1))), some (.ref (16 + (23 + 3 * (i + 1)))), some (.ref (16 + (23 + 3 * i))), some (.int a), some (.int (nI s))] [.int (nI (stL T i).length), .int (nI s)] (st_h z1) := by
        refine ri_go hJ [52, 38] 90 31 rfl ?_
        refine ⟨fun c => absurd c (nI_ge (by omega) (by omega)), fun _ => ⟨fun c => k52 a z1 _ ?_ hm, fun _ => ?_⟩⟩
        · have c : a = 8064 := c
          rw [c] at e ⊢
          rw [← or_as, stpF_all, orL_all (stpF_all T i)] at e
          exact e
        · exact J_lcall hJ (as := [.int (nI s), .int 1]) (rest := []) rfl (ly_obj hp0 z1) (e5_isMarked l z1 hp0 (by omega)) rfl rfl rfl rfl (fun r h' hr => by obtain ⟨rfl, rfl⟩ := hr; exact k39)
      refine ri_go hJ [30] 90 28 rfl ?_
      exact J_lcall hJ (as := []) (rest := [.int (nI s)]) rfl (ly_obj hp0 z1) (e5_keptN l z1 hp0 hB1 h40) rfl rfl rfl rfl (fun r h' hr => by obtain ⟨rfl, rfl⟩ := hr; exact k31)
  have k23 : J 23 0 0 [some (.ref 87), some (.int (nI (i + 1))), some (.ref (16 + (23 + 3 * (i + 1)))), none, none, none] [.ref (16 + (23 + 3 * i))] (st_h z) := by
    refine ri_go hJ [28] 90 23 rfl ?_
    exact loop (stL T i).length 0 (Nat.add_zero _) 0 (by rw [List.drop_zero, z_or, stp]) z (md_rf _ _)
  have k8 : J 8 0 0 [some (.ref 87), some (.int (nI (i + 1))), some (.ref (16 + (23 + 3 * (i + 1)))), none, none, none] [.int (z.1 (23 + 3 * (i + 1)) 0)] (st_h z) := by
    refine ri_go hJ [22] 90 8 rfl ?_
    refine ⟨fun c => absurd c hz, fun _ => ⟨fun _ => ?_, fun c => absurd (Decidable.not_not.mp c) (nI_ne0 (by omega) (by omega))⟩⟩
    have e : nI (i + 1) - 1 = nI i := nI_pred i
    have := J_layer hJ (k := 22) rfl (i := i) (by omega) k23
    rw [← e] at this
    exact this
  have k5 : J 5 0 0 [some (.ref 87), some (.int (nI (i + 1))), none, none, none, none] [.ref (16 + (23 + 3 * (i + 1)))] (st_h z) := by
    refine ri_go hJ [7] 90 5 rfl ?_
    exact J_size hJ rfl hp k8
  refine ri_run_ok hJ [4] 90 0 0 0 _ _ _ ?_
  exact J_layer hJ rfl (by omega) k5
