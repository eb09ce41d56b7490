/-! RowSearch: findRests -/
def wv (T : tT) (i : Nat) (Y : List Nat) (W : Nat → wy) (A : List Nat) (x : Nat) : wy := if i + 1 = T 8 2 then [(cst T x, 0)] else lnkF T x (cst T x) Y W A []
def WO (B : Nat) (L : wy) : Prop := L.length ≤ 4 ∧ Srt L ∧ BD B L
theorem WO_nil (B : Nat) : WO B [] := ⟨Nat.zero_le _, fun j j' a b _ h => by simp at h, fun j a h => by simp at h⟩
theorem WO_one {B c : Nat} (h : c < B) : WO B [(c, 0)] := by
  refine ⟨by simp, fun j j' a b hj h h' => ?_, fun j a ha => ?_⟩
  · match j, j' with
    | 0, 0 => omega
    | 0, j' + 1 => simp at h'
    | j + 1, _ => simp at h
  · match j with
    | 0 => cases ha; exact ⟨h, show 0 < 2 ^ 31 by decide⟩
    | j + 1 => simp at ha
theorem lastP_f {T : tT} {i : Nat} (h : lastP T i = false) : ¬ i + 1 = T 8 2 := by
  unfold lastP at h
  simpa using h
theorem lastP_t {T : tT} {i : Nat} (h : lastP T i = true) : i + 1 = T 8 2 := by
  unfold lastP at h
  simpa using h
theorem RW_FO {z z' : st_T} {b : Bool} {i s s' : Nat} {L : wy} (h : RW (z.2.1 (sA b)) (z.2.1 (78 + i)) (4 * s') L) (hf : FO z z' b i s) (hs : s' ≠ s) : RW (z'.2.1 (sA b)) (z'.2.1 (78 + i)) (4 * s') L := by
  refine ⟨fun j a ha hj => ?_, fun j h1 h2 => ?_⟩
  · rw [(hf (4 * s' + j) (by omega)).1, (hf (4 * s' + j) (by omega)).2]; exact h.1 j a ha hj
  · rw [(hf (4 * s' + j) (by omega)).2]; exact h.2 j h1 h2
/-- what the search knows of the place behind i -/
def NX (z : st_T) (T : tT) (i B : Nat) (Y : List Nat) (W : Nat → wy) (A : List Nat) : Prop := i + 1 < T 8 2 → LY z (23 + 3 * (i + 1)) Y ∧ Y.length ≤ 400 ∧ (∀ t y : Nat, Y[t]? = some y → CK y) ∧ AL z A ∧ A.length ≤ 400 ∧ (∀ t, t ∈ A → t < Y.length) ∧ WK z (i + 1) B A W
theorem NX_md {z z' : st_T} {T : tT} {i B : Nat} {Y : List Nat} {W : Nat → wy} {A : List Nat} (h : NX z T i B Y W A) (hn : T 8 2 ≤ 16) (hm : md (mdR z.2.2 i) z z') : NX z' T i B Y W A := by
  intro hl
  obtain ⟨h1, h2, h3, h4, h5, h6, h7⟩ := h hl
  exact ⟨LY_md h1 hm (mdR_no (by omega) (by omega)) (mdR_no (by omega) (by omega)), h2, h3, AL_md h4 (by omega) hm, h5, h6, WK_md h7 (by omega) hm⟩
set_option maxHeartbeats 2000000 in
theorem e8_findRests (l : Launch) (z : st_T) (T : tT) (hW : TW T) (hS : RS z T) (hR : RH z T) {i B : Nat} {X Y A : List Nat} {W : Nat → wy} (hi : i < T 8 2) (hX : LY z (23 + 3 * i) X) (hX4 : X.length ≤ 400) (hXC : ∀ t y : Nat, X[t]? = some y → CK y) (hN : NX z T i B Y W A) (hB : B < 2 ^ 29) : ri_Ev l y8_findRests w8_findRests r8_findRests 0 0 [.ref 91, .int (nI i)] (st_h z) (ri_zx fun z' => (∀ s x : Nat, X[s]? = some x → RW (z'.2.1 (sA z.2.2)) (z'.2.1 (78 + i)) (4 * s) (wv T i Y W A x) ∧ WO (321000 + B) (wv T i Y W A x)) ∧ md (mdR z.2.2 i) z z') := by
  refine ri_ev (t8_findRests l _) rfl rfl rfl (Nat.le_of_ble_eq_true rfl) rfl (z8_findRests l _) (fun J hJ => ?_)
  have hn := hW.1
  have hi16 : i < 16 := by omega
  have hp := lyP_of hi16
  have hsv := sA_v z.2.2
  have loop : ∀ m s, m + s = X.length → ∀ z1 : st_T, (∀ s' x : Nat, s' < s → X[s']? = some x → RW (z1.2.1 (sA z.2.2)) (z1.2.1 (78 + i)) (4 * s') (wv T i Y W A x) ∧ WO (321000 + B) (wv T i Y W A x)) → (∀ s' : Nat, s ≤ s' → s' < 400 → RW (z1.2.1 (sA z.2.2)) (z1.2.1 (78 + i)) (4 * s') []) → md (mdR z.2.2 i) z z1 → ∀ o, J 16 0 0 [some (.ref 91), some (.int (nI i)), some (.ref (16 + (23 + 3 * i))), some (.ref (16 + (78 + i))), some (.int (nI s)), o] [] (st_h z1) := by
    intro m
    induction m with
    | zero =>
      intro s hs z1 hd hu hm o
      have hX1 := LY_md hX hm (mdR_no (by omega) (by omega)) (mdR_no (by omega) (by omega))
      have k19 : J 19 0 0 [some (.ref 91), some (.int (nI i)), some (.ref (16 + (23 + 3 * i))), some (.ref (16 + (78 + i))), some (.int (nI s)), o] [.int (nI X.length), .int (nI s)] (st_h z1) := by
        refine ri_go hJ [] 90 19 rfl ?_
        exact ⟨fun _ => ⟨rfl, z1, rfl, fun s' x hx => hd s' x (by have := (List.getElem?_eq_some_iff.mp hx).1; omega) hx, hm⟩, fun c => absurd (nI_le (by omega) (by omega)) c⟩
      refine ri_go hJ [18] 90 16 rfl ?_
      exact J_lcall hJ (as := []) (rest := [.int (nI s)]) rfl (ly_obj hp z1) (e5_keptN l z1 hp hX1 hX4) rfl rfl rfl rfl (fun r h' hr => by obtain ⟨rfl, rfl⟩ := hr; exact k19)
    | succ m ih =>
      intro s hs z1 hd hu hm o
      have e1 := nI_1 s
      have eb : z1.2.2 = z.2.2 := hm.2
      have hX1 := LY_md hX hm (mdR_no (by omega) (by omega)) (mdR_no (by omega) (by omega))
      obtain ⟨x, hx⟩ : ∃ x, X[s]? = some x := ⟨_, List.getElem?_eq_getElem (by omega)⟩
      have hok := hXC s x hx
      have hcd : z1.2.1 (23 + 3 * i + 1) s = nI x := hX1.2 s x hx (by omega)
      have hS1 := RS_md hS hm (mdR_S _ _)
      have hR1 := RH_md hR hm (mdR_H _ _)
      have hcl := cst_le hW x
      have k49 : ∀ z2, RW (z2.2.1 (sA z.2.2)) (z2.2.1 (78 + i)) (4 * s) (wv T i Y W A x) → WO (321000 + B) (wv T i Y W A x) → FO z1 z2 z.2.2 i s → md (mdR z.2.2 i) z z2 → ∀ o, J 49 0 0 [some (.ref 91), some (.int (nI i)), some (.ref (16 + (23 + 3 * i))), some (.ref (16 + (78 + i))), some (.int (nI s)), o] [] (st_h z2) := by
        intro z2 hR2 hO2 hf2 hm2 o
        refine ri_go hJ [16] 90 49 rfl ?_
        have := ih (s + 1) (by omega) z2 (fun s' y hs' hy => ?_) (fun s' h1 h2 => RW_FO (hu s' (by omega) h2) hf2 (by omega)) hm2 o
        · rw [← e1] at this
          exact this
        · by_cases q : s' = s
          · subst q
            rw [hx] at hy; cases hy
            exact ⟨hR2, hO2⟩
          · exact ⟨RW_FO (hd s' y (by omega) hy).1 hf2 q, (hd s' y (by omega) hy).2⟩
      have k41 : i + 1 = T 8 2 → J 41 0 0 [some (.ref 91), some (.int (nI i)), some (.ref (16 + (23 + 3 * i))), some (.ref (16 + (78 + i))), some (.int (nI s)), some (.int (nI (cst T x)))] [.int 0, .int (nI (cst T x)), .int (nI (4 * s)), .ref (16 + (78 + i)), .ref (16 + sA z.2.2)] (st_h z1) := by
        intro hl
        refine ri_go hJ [49] 90 41 rfl ?_
        refine ⟨_, e8_insert l (AR_sA z.2.2) (AR_lk hi16) (by omega) z1 (q := 4 * s) (t := cst T x) (k := 0) (L := []) (by decide) (by omega) (by omega) (by omega) (hu s (Nat.le_refl _) (by omega)) (WO_nil 0).2.1 (WO_nil _).2.2, ?_⟩
        rintro r' h' ⟨b, z2, rfl, rfl, hL2, hfr2, hm2, hfull⟩
        have ew : wv T i Y W A x = insk 4 [] (cst T x, 0) := by unfold wv; rw [if_pos hl]; rfl
        refine k49 z2 (by rw [ew]; exact hL2) (by rw [ew]; exact WO_one (by omega)) hfr2 (md_tr hm (md_mo hm2 (by intro p hp; rw [mdR_in]; simp at hp; omega))) _
      have k32 : J 32 0 0 [some (.ref 91), some (.int (nI i)), some (.ref (16 + (23 + 3 * i))), some (.ref (16 + (78 + i))), some (.int (nI s)), some (.int (nI (cst T x)))] [.int (zb (lastP T i))] (st_h z1) := by
        refine ri_go hJ [49, 41] 90 32 rfl ?_
        refine ⟨fun d => ?_, fun d => ?_⟩
        · have hl := lastP_f (zb_0.mp d)
          obtain ⟨y1, y2, y3, y4, y5, y6, y7⟩ := NX_md hN hn.2 hm (show i + 1 < T 8 2 by omega)
          refine ⟨_, e8_linkOnward l z1 T hW hS1 hR1 (i := i) (s := s) (x := x) (c := cst T x) (B := B) (X := X) (Y := Y) (A := A) (W := W) (acc := []) (by omega) hX1 hX4 hx hok y1 y2 y3 y4 y5 y6 y7 hB hcl (by decide) (WO_nil 0).2.1 (WO_nil _).2.2 (by rw [eb]; exact hu s (Nat.le_refl _) (by omega)), ?_⟩
          rintro r h' ⟨rfl, z2, rfl, hL2, hO2, hf2, hm2⟩
          rw [eb] at hL2 hf2 hm2
          have ew : wv T i Y W A x = lnkF T x (cst T x) Y W A [] := by unfold wv; rw [if_neg hl]
          exact k49 z2 (by rw [ew]; exact hL2) (by rw [ew]; exact hO2) hf2 (md_tr hm hm2) _
        · have := k41 (lastP_t (zb_1.mp d))
          rw [← sA_r, ← eb, ← mul4] at this
          exact this
      have k26 : J 26 0 0 [some (.ref 91), some (.int (nI i)), some (.ref (16 + (23 + 3 * i))), some (.ref (16 + (78 + i))), some (.int (nI s)), o] [.int (z1.2.1 (23 + 3 * i + 1) s), .ref 92] (st_h z1) := by
        rw [hcd]
        refine ri_go hJ [32] 90 26 rfl ?_
        refine ⟨_, e7_ofState l z1 T hS1 hR1 hok.1 hok.2.1, ?_⟩
        rintro r h' ⟨rfl, rfl⟩
        refine ⟨_, e0_isLastN l z1 T hW hS1 hi16, ?_⟩
        rintro r h' ⟨rfl, rfl⟩
        exact k32
      have k19 : J 19 0 0 [some (.ref 91), some (.int (nI i)), some (.ref (16 + (23 + 3 * i))), some (.ref (16 + (78 + i))), some (.int (nI s)), o] [.int (nI X.length), .int (nI s)] (st_h z1) := by
        refine ri_go hJ [23] 90 19 rfl ?_
        refine ⟨fun c => absurd c (nI_ge (by omega) (by omega)), fun _ => ?_⟩
        refine J_codes hJ rfl hp ?_
        refine ri_go hJ [25] 90 24 rfl ?_
        exact J_code hJ rfl hp (by omega) k26
      refine ri_go hJ [18] 90 16 rfl ?_
      exact J_lcall hJ (as := []) (rest := [.int (nI s)]) rfl (ly_obj hp z1) (e5_keptN l z1 hp hX1 hX4) rfl rfl rfl rfl (fun r h' hr => by obtain ⟨rfl, rfl⟩ := hr; exact k19)
  have k10 : J 10 0 0 [some (.ref 91), some (.int (nI i)), some (.ref (16 + (23 + 3 * i))), none, none, none] [.ref (16 + (78 + i))] (st_h z) := by
    refine ri_go hJ [16] 90 10 rfl ?_
    refine ⟨_, e15_fill l (AR_lk hi16) z (-1), ?_⟩
    rintro r h' ⟨rfl, z1, rfl, hf, hm⟩
    refine loop X.length 0 (Nat.add_zero _) z1 (fun s' x h => absurd h (by omega)) (fun s' _ h4 => ⟨fun j a ha => by simp at ha, fun j _ hj => hf _ (by omega)⟩) (md_mo hm (by intro p hp; rw [mdR_in]; simp at hp; omega)) none
  have k5 : J 5 0 0 [some (.ref 91), some (.int (nI i)), none, none, none, none] [.ref (16 + (23 + 3 * i))] (st_h z) := by
    refine ri_go hJ [9] 90 5 rfl ?_
    exact J_link hJ rfl hi16 k10
  refine ri_run_ok hJ [4] 90 0 0 0 _ _ _ ?_
  exact J_layer hJ rfl hi16 k5
