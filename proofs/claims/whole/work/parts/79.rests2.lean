/-! RowSearch: linkOnward, findRests -/
theorem cst_le {T : tT} (hW : TW T) (x : Nat) : cst T x ≤ 11000 := by
  have hp := hW.2.2.2.2.2.2.1
  have p3 := hp 3 (by decide)
  have p8 := hp 8 (by decide)
  have p2 := hp 2 (by decide)
  have p6 := hp 6 (by decide)
  have hu : uniU x 3 ≤ 3 := by
    unfold uniU uniU uniU uniU
    repeat' split
    all_goals omega
  have hi : iu (tmof T (chd x) (pit x 3)) ≤ 6 := by
    have := tmof_le T (chd x) (pit x 3)
    generalize tmof T (chd x) (pit x 3) = k at this
    match k, this with
    | 0, _ => decide
    | 1, _ => decide
    | 2, _ => decide
    | 3, _ => decide
    | 4, _ => decide
  have m1 : T 5 3 * iu (tmof T (chd x) (pit x 3)) ≤ 1000 * 6 := Nat.mul_le_mul p3 hi
  have m2 : T 5 8 * uniU x 3 ≤ 1000 * 3 := Nat.mul_le_mul p8 hu
  unfold cst
  split <;> split <;> omega
theorem csp_le {T : tT} (hW : TW T) (x y : Nat) : csp T x y ≤ 310000 := by
  have hp := hW.2.2.2.2.2.2.1
  have p0 := hp 0 (by decide)
  have p4 := hp 4 (by decide)
  have p1 := hp 1 (by decide)
  have p5 := hp 5 (by decide)
  have p7 := hp 7 (by decide)
  have m1 : T 5 4 * unt (chd x) (chd y) ≤ 1000 * 9 := Nat.mul_le_mul p4 (unt_le _ _)
  have md : ∀ v, T 5 0 * (dst (pit y v) (pit x v) - 2) ≤ 1000 * 98 := fun v => Nat.mul_le_mul p0 (by have := dst_lt x y v; omega)
  have q0 := md 0
  have q1 := md 1
  have q2 := md 2
  have ml : lmv T x y 3 ≤ 294000 := by
    unfold lmv lmv lmv lmv
    omega
  unfold csp
  split <;> split <;> split <;> omega
def lnkF (T : tT) (x c : Nat) (Y : List Nat) (W : Nat → wy) : List Nat → wy → wy
  | [], acc => acc
  | t :: A, acc => lnkF T x c Y W A (if alw T x (Y.getD t 0) = true then rstF (c + csp T x (Y.getD t 0)) t 0 (W t) acc else acc)
theorem lnkF_nil (T : tT) (x c : Nat) (Y : List Nat) (W : Nat → wy) (acc : wy) : lnkF T x c Y W [] acc = acc := rfl
theorem lnkF_cons (T : tT) (x c : Nat) (Y : List Nat) (W : Nat → wy) (t : Nat) (A : List Nat) (acc : wy) : lnkF T x c Y W (t :: A) acc = lnkF T x c Y W A (if alw T x (Y.getD t 0) = true then rstF (c + csp T x (Y.getD t 0)) t 0 (W t) acc else acc) := rfl
/-- the living states of the place behind, and their rests -/
def AL (z : st_T) (A : List Nat) : Prop := z.1 75 8 = nI A.length ∧ ∀ (n t : Nat), A[n]? = some t → n < 400 → z.2.1 96 n = nI t
def WK (z : st_T) (i B : Nat) (A : List Nat) (W : Nat → wy) : Prop := ∀ t, t ∈ A → (W t).length ≤ 4 ∧ Srt (W t) ∧ BD B (W t) ∧ RW (z.2.1 (lA z.2.2)) (z.2.1 (78 + i)) (4 * t) (W t)
def mdR (b : Bool) (i : Nat) : List Nat := [18, 19, 20, sA b, 78 + i]
theorem mdR_in {b : Bool} {i p : Nat} : p ∈ mdR b i ↔ p = 18 ∨ p = 19 ∨ p = 20 ∨ p = sA b ∨ p = 78 + i := by simp [mdR]
theorem mdR_H (b : Bool) (i : Nat) : ∀ p ∈ mdR b i, p < 9 ∨ 13 < p := by
  intro p hp
  rw [mdR_in] at hp
  have := sA_v b
  omega
theorem mdR_S (b : Bool) (i : Nat) : ∀ p ∈ mdR b i, 8 < p := by
  intro p hp
  rw [mdR_in] at hp
  have := sA_v b
  omega
theorem mdR_no {b : Bool} {i p : Nat} (h1 : 20 < p) (h2 : p < 78) : p ∉ mdR b i := by
  intro hp
  rw [mdR_in] at hp
  have := sA_v b
  omega
theorem AL_md {z z' : st_T} {A : List Nat} (h : AL z A) {b : Bool} {i : Nat} (hi : i < 16) (hm : md (mdR b i) z z') : AL z' A := by
  unfold AL
  have e1 := (hm.1 75 (mdR_no (by decide) (by decide))).1
  have e2 := md_F hm (p := 96) (fun q => by rw [mdR_in] at q; have := sA_v b; omega)
  rw [e1, e2]
  exact h
theorem WK_md {z z' : st_T} {A : List Nat} {W : Nat → wy} {i B : Nat} (h : WK z (i + 1) B A W) (hi : i + 1 < 16) (hm : md (mdR z.2.2 i) z z') : WK z' (i + 1) B A W := by
  intro t ht
  obtain ⟨h1, h2, h3, h4⟩ := h t ht
  have e1 := md_F hm (p := lA z.2.2) (fun q => by rw [mdR_in] at q; have := sA_v z.2.2; have := lA_v z.2.2; have := sl_ne z.2.2; omega)
  have e2 := md_F hm (p := 78 + (i + 1)) (fun q => by rw [mdR_in] at q; have := sA_v z.2.2; omega)
  refine ⟨h1, h2, h3, ?_⟩
  rw [hm.2, e1, e2]
  exact h4
/-- elsewhere in the two arrays nothing changes -/
def FO (z z' : st_T) (b : Bool) (i s : Nat) : Prop := ∀ j, (j < 4 * s ∨ 4 * s + 4 ≤ j) → z'.2.1 (sA b) j = z.2.1 (sA b) j ∧ z'.2.1 (78 + i) j = z.2.1 (78 + i) j
theorem FO_tr {z z1 z2 : st_T} {b : Bool} {i s : Nat} (h : FO z z1 b i s) (h' : FO z1 z2 b i s) : FO z z2 b i s := fun j hj => ⟨by rw [(h' j hj).1, (h j hj).1], by rw [(h' j hj).2, (h j hj).2]⟩
theorem FO_sc {z z' : st_T} {b : Bool} {i s : Nat} (hm : md sc3 z z') : FO z z' b i s := fun j _ => ⟨by rw [md_F hm (by have := sA_v b; simp [sc3]; omega)], by rw [md_F hm (by simp [sc3]; omega)]⟩
theorem RW_sc {z z' : st_T} {b : Bool} {i q : Nat} {L : wy} (h : RW (z.2.1 (sA b)) (z.2.1 (78 + i)) q L) (hm : md sc3 z z') : RW (z'.2.1 (sA b)) (z'.2.1 (78 + i)) q L := by
  rw [md_F hm (p := sA b) (by have := sA_v b; simp [sc3]; omega), md_F hm (p := 78 + i) (by simp [sc3]; omega)]
  exact h
theorem rst_ok {c t B : Nat} {W L : wy} (hW4 : W.length ≤ 4) (hWB : BD B W) (ht : t < 400) (h4 : L.length ≤ 4) (hS : Srt L) (hb : BD (c + B) L) : (rstF c t 0 W L).length ≤ 4 ∧ Srt (rstF c t 0 W L) ∧ BD (c + B) (rstF c t 0 W L) := rstF_ok W 0 L (fun a ha => by have := (BD_mem hWB ha).1; omega) (by omega) h4 hS hb
theorem BD_mono {B B' : Nat} {L : wy} (h : BD B L) (hb : B ≤ B') : BD B' L := fun j a ha => ⟨Nat.lt_of_lt_of_le (h j a ha).1 hb, (h j a ha).2⟩
theorem getD_of {Y : List Nat} {t y : Nat} (h : Y[t]? = some y) : Y.getD t 0 = y := by rw [List.getD_eq_getElem?_getD, h]; rfl
theorem b7_alw {T : tT} {x y : Nat} (h : alw T x y = true) : ¬ unt (chd x) (chd y) = 9 := by
  unfold alw b7 at h
  rw [Bool.and_eq_true] at h
  simpa using h.1
set_option maxHeartbeats 2000000 in
theorem e8_linkOnward (l : Launch) (z : st_T) (T : tT) (hW : TW T) (hS : RS z T) (hR : RH z T) {i s x c B : Nat} {X Y A : List Nat} {W : Nat → wy} {acc : wy} (hi : i + 1 < 16) (hX : LY z (23 + 3 * i) X) (hX4 : X.length ≤ 400) (hx : X[s]? = some x) (hxC : CK x) (hY : LY z (23 + 3 * (i + 1)) Y) (hY4 : Y.length ≤ 400) (hYC : ∀ t y : Nat, Y[t]? = some y → CK y) (hA : AL z A) (hA4 : A.length ≤ 400) (hAY : ∀ t, t ∈ A → t < Y.length) (hK : WK z (i + 1) B A W) (hB : B < 2 ^ 29) (hc : c ≤ 11000) (h4 : acc.length ≤ 4) (hSr : Srt acc) (hb : BD (321000 + B) acc) (hL : RW (z.2.1 (sA z.2.2)) (z.2.1 (78 + i)) (4 * s) acc) : ri_Ev l y8_linkOnward w8_linkOnward r8_linkOnward 0 0 [.ref 91, .int (nI i), .int (nI s), .int (nI c)] (st_h z) (ri_zx fun z' => RW (z'.2.1 (sA z.2.2)) (z'.2.1 (78 + i)) (4 * s) (lnkF T x c Y W A acc) ∧ ((lnkF T x c Y W A acc).length ≤ 4 ∧ Srt (lnkF T x c Y W A acc) ∧ BD (321000 + B) (lnkF T x c Y W A acc)) ∧ FO z z' z.2.2 i s ∧ md (mdR z.2.2 i) z z') := by
  refine ri_ev (t8_linkOnward l _) rfl rfl rfl (Nat.le_of_ble_eq_true rfl) rfl (z8_linkOnward l _) (fun J hJ => ?_)
  have hp0 := lyP_of (i := i) (by omega)
  have hp1 := lyP_of (i := i + 1) hi
  have hsl := (List.getElem?_eq_some_iff.mp hx).1
  have loop : ∀ m n, m + n = A.length → ∀ (z1 : st_T) (a1 : wy), a1.length ≤ 4 → Srt a1 → BD (321000 + B) a1 → RW (z1.2.1 (sA z.2.2)) (z1.2.1 (78 + i)) (4 * s) a1 → lnkF T x c Y W (A.drop n) a1 = lnkF T x c Y W A acc → FO z z1 z.2.2 i s → md (mdR z.2.2 i) z z1 → ∀ o7 o8, J 19 0 0 [some (.ref 91), some (.int (nI i)), some (.int (nI s)), some (.int (nI c)), some (.int (nI x)), some (.ref (16 + (23 + 3 * (i + 1)))), some (.int (nI n)), o7, o8] [] (st_h z1) := by
    intro m
    induction m with
    | zero =>
      intro n hn z1 a1 h4 hSr hb hL e hfo hm o7 o8
      have hA1 := AL_md hA (by omega) hm
      rw [List.drop_of_length_le (by omega), lnkF_nil] at e
      refine ri_go hJ [] 90 19 rfl ?_
      refine ⟨fun _ => ⟨rfl, z1, rfl, by rw [← e]; exact hL, by rw [← e]; exact ⟨h4, hSr, hb⟩, hfo, hm⟩, fun d => absurd (show z1.1 75 8 ≤ nI n from ?_) d⟩
      rw [hA1.1]; exact nI_le (by omega) (by omega)
    | succ m ih =>
      intro n hn z1 a1 h4 hSr hb hL e hfo hm o7 o8
      have e1 := nI_1 n
      have eb : z1.2.2 = z.2.2 := hm.2
      have hA1 := AL_md hA (by omega) hm
      have hK1 := WK_md hK hi hm
      have hS1 := RS_md hS hm (mdR_S _ _)
      have hR1 := RH_md hR hm (mdR_H _ _)
      have hY1 := LY_md hY hm (mdR_no (by omega) (by omega)) (mdR_no (by omega) (by omega))
      obtain ⟨t, ht⟩ : ∃ t, A[n]? = some t := ⟨_, List.getElem?_eq_getElem (by omega)⟩
      have htm := List.mem_of_getElem? ht
      have htY := hAY t htm
      obtain ⟨y, hy⟩ : ∃ y, Y[t]? = some y := ⟨_, List.getElem?_eq_getElem htY⟩
      have hyC := hYC t y hy
      have hcd : ∀ z2, md (mdR z.2.2 i) z z2 → z2.2.1 (23 + 3 * (i + 1) + 1) t = nI y := fun z2 hm2 => (LY_md hY hm2 (mdR_no (by omega) (by omega)) (mdR_no (by omega) (by omega))).2 t y hy (by omega)
      rw [drop_cons ht, lnkF_cons, getD_of hy] at e
      have k54 : ∀ (z2 : st_T) (a2 : wy), a2.length ≤ 4 → Srt a2 → BD (321000 + B) a2 → RW (z2.2.1 (sA z.2.2)) (z2.2.1 (78 + i)) (4 * s) a2 → lnkF T x c Y W (A.drop (n + 1)) a2 = lnkF T x c Y W A acc → FO z z2 z.2.2 i s → md (mdR z.2.2 i) z z2 → ∀ o7 o8, J 54 0 0 [some (.ref 91), some (.int (nI i)), some (.int (nI s)), some (.int (nI c)), some (.int (nI x)), some (.ref (16 + (23 + 3 * (i + 1)))), some (.int (nI n)), o7, o8] [] (st_h z2) := by
        intro z2 a2 q1 q2 q3 q4 q5 q6 q7 o7 o8
        refine ri_go hJ [19] 90 54 rfl ?_
        have := ih (n + 1) (by omega) z2 a2 q1 q2 q3 q4 q5 q6 q7 o7 o8
        rw [← e1] at this
        exact this
      have hcsp := csp_le hW x y
      -- behind the step's price
      have k45 : alw T x y = true → ∀ z2, md sc3 z1 z2 → J 45 0 0 [some (.ref 91), some (.int (nI i)), some (.int (nI s)), some (.int (nI c)), some (.int (nI x)), some (.ref (16 + (23 + 3 * (i + 1)))), some (.int (nI n)), some (.int (nI t)), o8] [.int (z2.2.1 (23 + 3 * (i + 1) + 1) t), .int (nI x), .ref 92, .int (nI c)] (st_h z2) := by
        intro ha z2 hm2
        have hm3 : md (mdR z.2.2 i) z z2 := md_tr hm (md_mo hm2 (by intro p hp; rw [mdR_in]; simp [sc3] at hp; omega))
        have eb2 : z2.2.2 = z.2.2 := hm3.2
        rw [hcd z2 hm3]
        refine ri_go hJ [54] 90 45 rfl ?_
        refine ⟨_, e7_ofStep l z2 T (RS_md hS1 hm2 sc3_S) (RH_md hR1 hm2 sc3_H) hxC hyC (b7_alw ha), ?_⟩
        rintro r h' ⟨rfl, rfl⟩
        obtain ⟨w1, w2, w3, w4⟩ := (WK_md hK hi hm3) t htm
        have er := e8_insertRests l z2 (i := i) (s := s) (t := t) (c := c + csp T x y) (W := W t) (acc := a1) hi (by omega) (by omega) w1 w2 w4 (BD_mono w3 (by omega)) (by omega) h4 hSr (BD_mono hb (by omega)) (by rw [eb2]; exact RW_sc hL hm2)
        rw [← nI_add] at er
        refine ⟨_, er, ?_⟩
        rintro r h' ⟨rfl, z3, rfl, hL3, hf3, hm4⟩
        rw [eb2] at hL3 hf3 hm4
        have hok := rst_ok (c := c + csp T x y) w1 w3 (show t < 400 by omega) h4 hSr (B := B) (L := a1)
        have hok2 := rstF_ok (c := c + csp T x y) (t := t) (B := 321000 + B) (W t) 0 a1 (fun a ha => by have := (BD_mem w3 ha).1; omega) (by omega) h4 hSr hb
        refine k54 z3 _ hok2.1 hok2.2.1 hok2.2.2 hL3 ?_ (FO_tr hfo (FO_tr (FO_sc hm2) hf3)) (md_tr hm3 (md_mo hm4 (by intro p hp; rw [mdR_in]; simp at hp; omega))) _ _
        rw [if_pos ha] at e
        exact e
      have k35 : J 35 0 0 [some (.ref 91), some (.int (nI i)), some (.int (nI s)), some (.int (nI c)), some (.int (nI x)), some (.ref (16 + (23 + 3 * (i + 1)))), some (.int (nI n)), some (.int (nI t)), o8] [.int (z1.2.1 (23 + 3 * (i + 1) + 1) t), .int (nI x), .ref 34] (st_h z1) := by
        rw [hcd z1 hm]
        refine ri_go hJ [54, 42] 90 35 rfl ?_
        refine ⟨_, e3_allow l z1 T hR1 hxC hyC, ?_⟩
        rintro r h' ⟨rfl, rfl⟩
        have hm2 : md sc3 z1 (lkz z1 x y) := md_lkz z1 x y
        have hm3 : md (mdR z.2.2 i) z (lkz z1 x y) := md_tr hm (md_mo hm2 (by intro p hp; rw [mdR_in]; simp [sc3] at hp; omega))
        refine ⟨fun d => k54 _ a1 h4 hSr hb (RW_sc hL hm2) ?_ (FO_tr hfo (FO_sc hm2)) hm3 _ _, fun d => ?_⟩
        · rw [if_neg (by rw [zb_0.mp d]; decide)] at e
          exact e
        · refine J_codes hJ rfl hp1 ?_
          refine ri_go hJ [44] 90 43 rfl ?_
          exact J_code hJ rfl hp1 (by omega) (k45 (zb_1.mp d) _ hm2)
      have k27 : J 27 0 0 [some (.ref 91), some (.int (nI i)), some (.int (nI s)), some (.int (nI c)), some (.int (nI x)), some (.ref (16 + (23 + 3 * (i + 1)))), some (.int (nI n)), o7, o8] [.int (z1.2.1 96 n)] (st_h z1) := by
        rw [hA1.2 n t ht (by omega)]
        refine ri_go hJ [32] 90 27 rfl ?_
        refine J_codes hJ rfl hp1 ?_
        refine ri_go hJ [34] 90 33 rfl ?_
        exact J_code hJ rfl hp1 (by omega) k35
      refine ri_go hJ [26] 90 19 rfl ?_
      refine ⟨fun d => absurd (show z1.1 75 8 ≤ nI n from d) ?_, fun _ => J_aget hJ rfl AR_96 (by omega) k27⟩
      rw [hA1.1]; exact nI_ge (by omega) (by omega)
  have k16 : J 16 0 0 [some (.ref 91), some (.int (nI i)), some (.int (nI s)), some (.int (nI c)), some (.int (nI x)), none, none, none, none] [.ref (16 + (23 + 3 * (i + 1)))] (st_h z) := by
    refine ri_go hJ [19] 90 16 rfl ?_
    exact loop A.length 0 (Nat.add_zero _) z acc h4 hSr hb hL (by rw [List.drop_zero]) (fun j _ => ⟨rfl, rfl⟩) (md_rf _ _) none none
  have k8 : J 8 0 0 [some (.ref 91), some (.int (nI i)), some (.int (nI s)), some (.int (nI c)), none, none, none, none, none] [.int (z.2.1 (23 + 3 * i + 1) s)] (st_h z) := by
    rw [hX.2 s x hx (by omega)]
    refine ri_go hJ [15] 90 8 rfl ?_
    have := J_layer hJ (k := 15) rfl (i := i + 1) hi k16
    rw [← nI_1] at this
    exact this
  have k5 : J 5 0 0 [some (.ref 91), some (.int (nI i)), some (.int (nI s)), some (.int (nI c)), none, none, none, none, none] [.ref (16 + (23 + 3 * i))] (st_h z) := by
    refine J_codes hJ rfl hp0 ?_
    refine ri_go hJ [7] 90 6 rfl ?_
    exact J_code hJ rfl hp0 (by omega) k8
  refine ri_run_ok hJ [4] 90 0 0 0 _ _ _ ?_
  exact J_layer hJ rfl (by omega) k5
