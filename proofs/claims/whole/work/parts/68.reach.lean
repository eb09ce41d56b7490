/-! Reach: to which states rows come -/
theorem okS_CK {T : tT} {i x : Nat} (h : okS T i x = true) : CK x := by
  have a := okS_all h
  refine ⟨a.1, a.2.1, fun u w hu hw => ?_⟩
  have d := a.2.2.2.2.2.2.1
  match u, w, hu, hw with
  | 0, 0, _, _ => exact Nat.le_refl _
  | 0, 1, _, _ => omega
  | 0, 2, _, _ => omega
  | 0, 3, _, _ => omega
  | 1, 1, _, _ => exact Nat.le_refl _
  | 1, 2, _, _ => omega
  | 1, 3, _, _ => omega
  | 2, 2, _, _ => exact Nat.le_refl _
  | 2, 3, _, _ => omega
  | 3, 3, _, _ => exact Nat.le_refl _
  | u + 4, w, h1, h2 => exact absurd h2 (by omega)
theorem stL_ok {T : tT} {i x : Nat} (h : x ∈ stL T i) : okS T i x = true := (List.mem_filter.mp h).2
theorem stL_at {T : tT} {i s x : Nat} (h : (stL T i)[s]? = some x) : okS T i x = true := stL_ok (List.mem_of_getElem? h)
def come (T : tT) : Nat → Nat → Bool
  | 0, _ => true
  | i + 1, y => (stL T i).any (fun x => come T i x && alw T x y)
def MK (z : st_T) (T : tT) (i : Nat) : Prop := ∀ s x, (stL T i)[s]? = some x → z.2.1 (25 + 3 * i) s &&& 1 = zb (come T i x)
theorem e5_keptN (l : Launch) (z : st_T) {p : Nat} (hp : lyP p) {L : List Nat} (hL : LY z p L) (h4 : L.length ≤ 400) : ri_Ev l y5_kept w5_kept r5_kept 0 0 [.ref (16 + p)] (st_h z) (ri_is (nI L.length) (st_h z)) := by
  have h := e5_kept l (16 + p) (z.1 p 0) (.ref (17 + p)) (.ref (18 + p)) (st_h z) (ly_obj hp z) (b16 16 p (by decide))
  rw [hL.1, if_neg (by rw [show (400 : Int32) = nI 400 from rfl, nn_lt (by decide) (by omega)]; omega)] at h
  exact h
theorem e5_isMarked (l : Launch) (z : st_T) {p s : Nat} {m : Int32} (hp : lyP p) (hs : s < 400) : ri_Ev l y5_isMarked w5_isMarked r5_isMarked 0 0 [.ref (16 + p), .int (nI s), .int m] (st_h z) (ri_is (zb (decide (¬ z.2.1 (p + 2) s &&& m = 0))) (st_h z)) := by
  refine ri_ev (t5_isMarked l _) rfl rfl rfl (Nat.le_of_ble_eq_true rfl) rfl (z5_isMarked l _) (fun J hJ => ?_)
  have k4 : J 4 0 0 [some (.ref (16 + p)), some (.int (nI s)), some (.int m)] [.int (z.2.1 (p + 2) s)] (st_h z) := by
    refine ri_go hJ [] 60 4 rfl ?_
    refine ⟨fun c => ⟨rfl, ?_, rfl⟩, fun c => ⟨rfl, ?_, rfl⟩⟩
    · rw [decide_eq_false (fun q => q c)]; rfl
    · rw [decide_eq_true c]; rfl
  have k2 : J 2 0 0 [some (.ref (16 + p)), some (.int (nI s)), some (.int m)] [.ref (18 + p)] (st_h z) := by
    refine ri_go hJ [3] 60 2 rfl ?_
    exact J_mark hJ rfl hp hs k4
  refine ri_run_ok hJ [1] 60 0 0 0 _ _ _ ?_
  exact J_marks hJ rfl hp k2
theorem drop_cons {L : List Nat} {s x : Nat} (h : L[s]? = some x) : L.drop s = x :: L.drop (s + 1) := by
  obtain ⟨hl, he⟩ := List.getElem?_eq_some_iff.mp h
  rw [List.drop_eq_getElem_cons hl, he]
def sc3 : List Nat := [18, 19, 20]
theorem LY_sc {z z' : st_T} {p : Nat} {L : List Nat} (h : LY z p L) (hp : lyP p) (hm : md sc3 z z') : LY z' p L := by
  have hp9 : 23 ≤ p := by rcases hp with h | ⟨i, _, h⟩ <;> omega
  exact LY_md h hm (by simp [sc3]; omega) (by simp [sc3]; omega)
theorem sc3_H : ∀ p ∈ sc3, p < 9 ∨ 13 < p := by decide
theorem sc3_S : ∀ p ∈ sc3, 8 < p := by decide
theorem md_F {ps : List Nat} {z z' : st_T} (h : md ps z z') {p : Nat} (hp : p ∉ ps) : z'.2.1 p = z.2.1 p := (h.1 p hp).2
/-- isEntered: some state of the place before, to which rows come, has a step to it -/
theorem e6_isEntered (l : Launch) (z : st_T) (T : tT) (hR : RH z T) {i y : Nat} (hi : i + 1 < 16) (hy : CK y) (hB : LY z (23 + 3 * i) (stL T i)) (h4 : (stL T i).length ≤ 400) (hM : MK z T i) : ri_Ev l y6_isEntered w6_isEntered r6_isEntered 0 0 [.ref 87, .int (nI (i + 1)), .int (nI y)] (st_h z) (ri_zi (zb (come T (i + 1) y)) fun z' => md sc3 z z') := by
  refine ri_ev (t6_isEntered l _) rfl rfl rfl (Nat.le_of_ble_eq_true rfl) rfl (z6_isEntered l _) (fun J hJ => ?_)
  have hp := lyP_of (i := i) (by omega)
  have loop : ∀ n s, n + s = (stL T i).length → come T (i + 1) y = ((stL T i).drop s).any (fun x => come T i x && alw T x y) → ∀ z1, md sc3 z z1 → J 14 0 0 [some (.ref 87), some (.int (nI (i + 1))), some (.int (nI y)), some (.ref (16 + (23 + 3 * i))), some (.int (nI s))] [] (st_h z1) := by
    intro n
    induction n with
    | zero =>
      intro s hs e z1 hm
      have hB1 := LY_sc hB hp hm
      have k17 : J 17 0 0 [some (.ref 87), some (.int (nI (i + 1))), some (.int (nI y)), some (.ref (16 + (23 + 3 * i))), some (.int (nI s))] [.int (nI (stL T i).length), .int (nI s)] (st_h z1) := by
        refine ri_go hJ [] 90 17 rfl ?_
        refine ⟨fun _ => ⟨rfl, ?_, z1, rfl, hm⟩, fun c => absurd (nI_le (by omega) (by omega)) c⟩
        rw [e, List.drop_of_length_le (by omega)]; rfl
      refine ri_go hJ [16] 90 14 rfl ?_
      exact J_lcall hJ (as := []) (rest := [.int (nI s)]) rfl (ly_obj hp z1) (e5_keptN l z1 hp hB1 h4) rfl rfl rfl rfl (fun r h' hr => by obtain ⟨rfl, rfl⟩ := hr; exact k17)
    | succ n ih =>
      intro s hs e z1 hm
      have e1 := nI_1 s
      have hB1 := LY_sc hB hp hm
      obtain ⟨x, hx⟩ : ∃ x, (stL T i)[s]? = some x := ⟨_, List.getElem?_eq_getElem (by omega)⟩
      have hok := okS_CK (stL_at hx)
      have hR1 := RH_md hR hm sc3_H
      have hmk : z1.2.1 (23 + 3 * i + 2) s &&& 1 = zb (come T i x) := by
        rw [md_F hm (by simp [sc3]; omega), show 23 + 3 * i + 2 = 25 + 3 * i by omega]; exact hM s x hx
      have hcd : z1.2.1 (23 + 3 * i + 1) s = nI x := hB1.2 s x hx (by omega)
      rw [drop_cons hx, List.any_cons] at e
      have k34 : (come T i x && alw T x y) = false → ∀ z2, md sc3 z z2 → J 34 0 0 [some (.ref 87), some (.int (nI (i + 1))), some (.int (nI y)), some (.ref (16 + (23 + 3 * i))), some (.int (nI s))] [] (st_h z2) := by
        intro hf z2 hm2
        refine ri_go hJ [14] 90 34 rfl ?_
        have := ih (s + 1) (by omega) (by rw [e, hf, Bool.false_or]) z2 hm2
        rw [← e1] at this
        exact this
      have k29 : come T i x = true → J 29 0 0 [some (.ref 87), some (.int (nI (i + 1))), some (.int (nI y)), some (.ref (16 + (23 + 3 * i))), some (.int (nI s))] [.int (z1.2.1 (23 + 3 * i + 1) s), .ref 34] (st_h z1) := by
        intro hc
        rw [hcd]
        refine ri_go hJ [34] 90 29 rfl ?_
        refine ⟨_, e3_allow l z1 T hR1 hok hy, ?_⟩
        rintro r h' ⟨rfl, rfl⟩
        have hm2 : md sc3 z (lkz z1 x y) := md_tr hm (md_lkz z1 x y)
        refine ⟨fun c => k34 ?_ _ hm2, fun c => ⟨rfl, ?_, _, rfl, hm2⟩⟩
        · rw [zb_0.mp c, Bool.and_false]
        · rw [e, hc, zb_1.mp c]; rfl
      have k22 : J 22 0 0 [some (.ref 87), some (.int (nI (i + 1))), some (.int (nI y)), some (.ref (16 + (23 + 3 * i))), some (.int (nI s))] [.int (zb (decide (¬ z1.2.1 (23 + 3 * i + 2) s &&& 1 = 0)))] (st_h z1) := by
        rw [hmk, show decide (¬ zb (come T i x) = 0) = come T i x by cases come T i x <;> rfl]
        refine ri_go hJ [34, 26] 90 22 rfl ?_
        refine ⟨fun c => k34 ?_ _ hm, fun c => ?_⟩
        · rw [zb_0.mp c]; rfl
        · refine J_codes hJ rfl hp ?_
          refine ri_go hJ [28] 90 27 rfl ?_
          exact J_code hJ rfl hp (by omega) (k29 (zb_1.mp c))
      have k17 : J 17 0 0 [some (.ref 87), some (.int (nI (i + 1))), some (.int (nI y)), some (.ref (16 + (23 + 3 * i))), some (.int (nI s))] [.int (nI (stL T i).length), .int (nI s)] (st_h z1) := by
        refine ri_go hJ [21] 90 17 rfl ?_
        refine ⟨fun c => absurd c (nI_ge (by omega) (by omega)), fun _ => ?_⟩
        exact J_lcall hJ (as := [.int (nI s), .int 1]) (rest := []) rfl (ly_obj hp z1) (e5_isMarked l z1 hp (by omega)) rfl rfl rfl rfl (fun r h' hr => by obtain ⟨rfl, rfl⟩ := hr; exact k22)
      refine ri_go hJ [16] 90 14 rfl ?_
      exact J_lcall hJ (as := []) (rest := [.int (nI s)]) rfl (ly_obj hp z1) (e5_keptN l z1 hp hB1 h4) rfl rfl rfl rfl (fun r h' hr => by obtain ⟨rfl, rfl⟩ := hr; exact k17)
  refine ri_run_ok hJ [10, 14] 90 0 0 0 _ _ _ ?_
  refine ⟨fun _ => ?_, fun c => absurd (show nI (i + 1) = 0 from Decidable.not_not.mp c) (nI_ne0 (by omega) (by omega))⟩
  have e : nI (i + 1) - 1 = nI i := nI_pred i
  have k11 : J 11 0 0 [some (.ref 87), some (.int (nI (i + 1))), some (.int (nI y)), none, none] [.ref (16 + (23 + 3 * i))] (st_h z) := by
    refine ri_go hJ [14] 90 11 rfl ?_
    exact loop (stL T i).length 0 (Nat.add_zero _) (by rw [List.drop_zero, come]) z (md_rf _ _)
  have := J_layer hJ (k := 10) rfl (i := i) (by omega) k11
  rw [← e] at this
  exact this
theorem e6_isEntered0 (l : Launch) (z : st_T) (y : Int32) : ri_Ev l y6_isEntered w6_isEntered r6_isEntered 0 0 [.ref 87, .int (nI 0), .int y] (st_h z) (ri_zi (zb true) fun z' => md sc3 z z') := by
  refine ri_ev (t6_isEntered l _) rfl rfl rfl (Nat.le_of_ble_eq_true rfl) rfl (z6_isEntered l _) (fun J hJ => ?_)
  refine ri_run_ok hJ [4] 90 0 0 0 _ _ _ ?_
  exact ⟨fun c => absurd rfl c, fun _ => ⟨rfl, rfl, z, rfl, md_rf _ _⟩⟩
