/-! THE FACE: the operations that ask -/
theorem ovf_few {T : tT} (h : ovf T = false) : FEW T := by
  intro i hi
  by_cases q : (stL T i).length ≤ 400
  · exact q
  · have : ovf T = true := anf_iff.mpr ⟨i, Nat.zero_le _, by omega, decide_eq_true (by omega)⟩
    rw [h] at this; cases this
theorem RO_mq {ps : List Nat} {z z' : st_T} {T : tT} {Q : tQ} (h : RO z T Q) (hm : mq ps z z') (h1 : 75 ∉ ps) (h2 : 99 ∉ ps) (h3 : 100 ∉ ps) : RO z' T Q := by
  unfold RO
  rw [(hm 75 h1).1, (hm 99 h2).2, (hm 100 h3).2]
  exact h
theorem CI_prep {z z' : st_T} {T : tT} {Q : tQ} (h : CI z T Q) (hB : TB z' T (T 8 2)) (h3 : z'.1 21 3 = 1) (hm : md mdL z z') : CI z' T Q := by
  obtain ⟨hW, hQ, hS, hR, hF, hO⟩ := h
  exact ⟨hW, hQ, RS_md hS hm mdL_S, RH_md hR hm mdL_H, Or.inr ⟨h3, hB⟩, RO_mq hO (mq_md hm) (by decide) (by decide) (by decide)⟩
theorem TB_md {ps : List Nat} {z z' : st_T} {T : tT} {n : Nat} (hn : n ≤ 16) (h : TB z T n) (hm : mq ps z z') (hp : ∀ i, i < 16 → 23 + 3 * i ∉ ps ∧ 23 + 3 * i + 1 ∉ ps) : TB z' T n := fun i hi => LY_mq (h i hi) hm (hp i (by omega)).1 (hp i (by omega)).2
/-- what else a question writes -/
theorem CI_sc {ps : List Nat} {z z' : st_T} {T : tT} {Q : tQ} (h : CI z T Q) (hB : TB z T (T 8 2)) (h3 : z.1 21 3 = 1) (hm : mq ps z z') (hS : RS z' T) (hp : ∀ p ∈ ps, p < 9 ∨ 13 < p) (hL : ∀ i, i < 16 → 23 + 3 * i ∉ ps ∧ 23 + 3 * i + 1 ∉ ps) (h21 : 21 ∉ ps) (h1 : 75 ∉ ps) (h2 : 99 ∉ ps) (h4 : 100 ∉ ps) : CI z' T Q := by
  obtain ⟨hW, hQ, _, hR, hF, hO⟩ := h
  have hn := hW.1
  exact ⟨hW, hQ, hS, RH_mq hR hm hp, Or.inr ⟨by rw [(hm 21 h21).1]; exact h3, TB_md (by omega) hB hm hL⟩, RO_mq hO hm h1 h2 h4⟩
def rwq (Q : tQ) (k i : Nat) : Nat := (Q.1.getD k (0, fun _ => 0)).2 i
def rowC (T : tT) (b : Nat) : List (Nat × (Nat → Nat)) := (rowL T (stL T) b).map (fun a => (a.1, rcd (stL T) (plW T (stL T) b) a.2))
def sp_states (T : tT) (Q : tQ) (i : Int32) : Int32 × tT × tQ := bif okP T i then (nI (stL T (nt i)).length, T, Q) else (-1, T, Q)
def sp_solve (T : tT) (Q : tQ) (b : Int32) : Int32 × tT × tQ := bif bt 0 b 100 then (bif ovf T then (-3, T, Q0) else (nI (rowC T (nt b)).length, T, (rowC T (nt b), lefT T (stL T) (nt b)))) else (-1, T, Q)
def sp_note (T : tT) (Q : tQ) (k v i : Int32) : Int32 × tT × tQ := bif okR Q k && (bt 0 v 3 && okP T i) then (nI (pit (rwq Q (nt k) (nt i)) (nt v)), T, Q) else (-1, T, Q)
def sp_chord (T : tT) (Q : tQ) (k i : Int32) : Int32 × tT × tQ := bif okR Q k && okP T i then (nI (chd (rwq Q (nt k) (nt i))), T, Q) else (-1, T, Q)
def sp_sum (T : tT) (Q : tQ) (k : Int32) : Int32 × tT × tQ := bif okR Q k then (nI (Q.1.getD (nt k) (0, fun _ => 0)).1, T, Q) else (-1, T, Q)
def sp_least (T : tT) (Q : tQ) : Int32 × tT × tQ := (if Q.1.length = 0 then -1 else zb (!Q.2), T, Q)
/-- the rules that bar an empty place -/
noncomputable def brv (T : tT) (i : Nat) : Int32 := Classical.epsilon (fun x => BRn T i 13 x)
theorem brv_eq {T : tT} {i : Nat} {x : Int32} (h : BRn T i 13 x) : brv T i = x := BR_det (Classical.epsilon_spec (p := fun x => BRn T i 13 x) ⟨x, h⟩) h
noncomputable def bkA (T : tT) (w : Int32) : Int32 := bif ovf T then -3 else if fu T = 99 then -2 else if w = 0 then nI (fu T) else if w = 1 then nI (stL T (fu T)).length else if (stL T (fu T)).length = 0 then brv T (fu T) else stp T (fu T - 1)
noncomputable def sp_blocked (T : tT) (Q : tQ) (w : Int32) : Int32 × tT × tQ := bif bt 0 w 2 then (bkA T w, T, Q) else (-1, T, Q)
def rpA (T : tT) : Int32 := bif ovf T then -3 else if fu T = 99 then -1 else gw T
def sp_repair (T : tT) (Q : tQ) : Int32 × tT × tQ := (rpA T, T, Q)
def psA (T : tT) (a b : Nat) : Int32 := if dst b a = 3 ∨ dst b a = 4 then (if inS T (min a b + 1) = true then nI (min a b + 1) else if inS T (min a b + 2) = true then nI (min a b + 2) else -2) else -2
def sp_passing (T : tT) (Q : tQ) (i v : Int32) : Int32 × tT × tQ := bif okR Q 0 && (bt 0 i (nI (T 8 2) - 2) && bt 0 v 3) then (psA T (pit (rwq Q 0 (nt i)) (nt v)) (pit (rwq Q 0 (nt i + 1)) (nt v)), T, Q) else (-1, T, Q)
def sp_count (T : tT) (Q : tQ) (w : Int32) : Int32 × tT × tQ := (if w = 0 then nI (T 8 0) else if w = 1 then nI (T 8 1) else if w = 2 then nI (T 8 2) else if w = 3 then nI (dcn (gvn T) 64) else if w = 4 then nI Q.1.length else if w = 5 then nI (dcn (sty T) 13) else -1, T, Q)
def sp_member (T : tT) (Q : tQ) (c k : Int32) : Int32 × tT × tQ := bif bt 0 c 12 && bt 0 k 3 then (n9 (tmem T (nt c) (nt k)), T, Q) else (-1, T, Q)
theorem e9_states (l : Launch) (z : st_T) (T : tT) (Q : tQ) (hI : CI z T Q) (i : Int32) : ri_Ev l y9_states w9_states r9_states 0 0 [.ref 16, .int i] (st_h z) (CO z (sp_states T Q i)) := by
  obtain ⟨hW, hQ, hS, hR, hF, hO⟩ := id hI
  refine ri_ev (t9_states l _) rfl rfl rfl (Nat.le_of_ble_eq_true rfl) rfl (z9_states l _) (fun J hJ => ?_)
  have bad : okP T i = false → CO z (sp_states T Q i) (some (.int (-1))) (st_h z) := fun h => CO_same hI (by unfold sp_states; rw [h]; rfl)
  refine ri_run_ok hJ [13] 90 0 0 0 _ _ _ ?_
  refine ⟨_, e9_isPlace l z T hW hS i, ?_⟩
  rintro r h' ⟨rfl, rfl⟩
  refine ⟨fun c1 => ?_, fun q => bad (zb_0.mp (Decidable.not_not.mp q))⟩
  have b1 := zb_1.mp c1
  obtain ⟨i1, i2⟩ := okP_le hW b1
  have hn := hW.1
  refine ⟨_, e4_prepare l z T hW hS hR hF, ?_⟩
  rintro r h' ⟨rfl, z', rfl, hB, h3, hm⟩
  have k15 : J 15 0 0 [some (.ref 16), some (.int i)] [.int (z'.1 (23 + 3 * nt i) 0)] (st_h z') := by
    refine ri_go hJ [] 90 15 rfl ?_
    refine CO_md (ps := mdL) ?_ (CI_prep hI hB h3 hm) (mq_md hm) (by decide)
    unfold sp_states
    rw [b1, (hB _ i1).1]; rfl
  have k13 := J_layer (z := z') hJ (k := 13) (n := 14) (U := 0) (V := 0) (L := [some (.ref 16), some (.int i)]) (r := []) rfl (i := nt i) (by omega) (J_size hJ rfl (lyP_of (by omega)) k15)
  rw [i2] at k13
  exact k13
theorem rstF_len {c t : Nat} : ∀ (W : wy) (r : Nat) (L : wy), L.length ≤ 4 → (rstF c t r W L).length ≤ 4
  | [], _, _, h => h
  | a :: W, r, L, h => rstF_len W (r + 1) _ (by rw [insk_len]; omega)
theorem lnkF_len {T : tT} {x c : Nat} {Y : List Nat} {W : Nat → wy} : ∀ (A : List Nat) (acc : wy), acc.length ≤ 4 → (lnkF T x c Y W A acc).length ≤ 4
  | [], _, h => h
  | t :: A, acc, h => by
    rw [lnkF_cons]
    refine lnkF_len A _ ?_
    by_cases q : alw T x (Y.getD t 0) = true
    · rw [if_pos q]; exact rstF_len _ _ _ h
    · rw [if_neg q]; exact h
theorem plW_len {T : tT} {St : Nat → List Nat} {beam i s : Nat} (hi : i < T 8 2) (hs : s < (St i).length) : (plW T St beam i s).length ≤ 4 := by
  obtain ⟨x, hx⟩ : ∃ x, (St i)[s]? = some x := ⟨_, List.getElem?_eq_getElem hs⟩
  rw [plW_at hi hx]
  unfold wv
  by_cases q : i + 1 = T 8 2
  · rw [if_pos q]; exact Nat.le_of_ble_eq_true rfl
  · rw [if_neg q]; exact lnkF_len _ _ (by decide)
theorem lk_VL {T : tT} {St : Nat → List Nat} {beam k : Nat} (hk : VL (plA T St beam 0) (plW T St beam 0) k) : ∀ i, i < T 8 2 → VL (plA T St beam i) (plW T St beam i) (lkA (plW T St beam) k i)
  | 0, _ => hk
  | i + 1, hi => by
    obtain ⟨v1, v2⟩ := lk_VL hk i (by omega)
    show VL _ _ (nxt (plW T St beam i) (lkA (plW T St beam) k i))
    obtain ⟨b, hb2⟩ : ∃ b, (plW T St beam i (lkA (plW T St beam) k i / 4))[lkA (plW T St beam) k i % 4]? = some b := ⟨_, List.getElem?_eq_getElem v2⟩
    have en : nxt (plW T St beam i) (lkA (plW T St beam) k i) = b.2 := by
      unfold nxt
      rw [List.getD_eq_getElem?_getD, hb2]; rfl
    rw [en]
    obtain ⟨x, hx⟩ : ∃ x, (St i)[lkA (plW T St beam) k i / 4]? = some x := ⟨_, List.getElem?_eq_getElem (plA_mem v1).1⟩
    rw [plW_at (by omega) hx] at hb2
    unfold wv at hb2
    rw [if_neg (by omega)] at hb2
    exact lnkF_VL (fun t ht => plW_len hi (plA_mem ht).1) _ _ (fun t ht => ht) (fun a ha => by simp at ha) b (List.mem_of_getElem? hb2)
theorem row_VL {T : tT} {St : Nat → List Nat} {beam : Nat} (hn : 1 ≤ T 8 2) {a : Nat × Nat} (ha : a ∈ rowL T St beam) : VL (plA T St beam 0) (plW T St beam 0) a.2 :=
  gth_VL (fun t ht => plW_len (by omega) (plA_mem ht).1) _ _ (fun t ht => ht) (fun a ha => by simp at ha) a ha
theorem rcd_mem {T : tT} {St : Nat → List Nat} {beam : Nat} (hn : 1 ≤ T 8 2) {a : Nat × Nat} (ha : a ∈ rowL T St beam) {i : Nat} (hi : i < T 8 2) : (St i)[lkA (plW T St beam) a.2 i / 4]? = some (rcd St (plW T St beam) a.2 i) := by
  have h := (plA_mem (lk_VL (row_VL hn ha) i hi).1).1
  unfold rcd
  rw [List.getD_eq_getElem?_getD, List.getElem?_eq_getElem h]; rfl
theorem map_at {α β : Type} {f : α → β} {L : List α} {k : Nat} {b : β} (h : (L.map f)[k]? = some b) : ∃ a, L[k]? = some a ∧ b = f a := by
  rw [List.getElem?_map] at h
  cases e : L[k]? with
  | none => rw [e] at h; cases h
  | some a => rw [e] at h; exact ⟨a, rfl, (Option.some.inj h).symm⟩
theorem rowC_at {T : tT} {b k : Nat} {a : Nat × (Nat → Nat)} (h : (rowC T b)[k]? = some a) : ∃ a', (rowL T (stL T) b)[k]? = some a' ∧ a.1 = a'.1 ∧ ∀ i, a.2 i = rcd (stL T) (plW T (stL T) b) a'.2 i := by
  obtain ⟨a', h1, h2⟩ := map_at h
  refine ⟨a', h1, ?_, fun i => ?_⟩
  · rw [h2]
  · rw [h2]
theorem rowC_len (T : tT) (b : Nat) : (rowC T b).length = (rowL T (stL T) b).length := List.length_map ..
theorem QW_of {T : tT} {L : List (Nat × (Nat → Nat))} {B : Bool} (h4 : L.length ≤ 4) (h0 : ovf T = false) (hk : ∀ (k : Nat) (a : Nat × (Nat → Nat)), L[k]? = some a → ∀ i, i < T 8 2 → CK (a.2 i)) : QW T (L, B) := ⟨h4, fun _ => h0, hk⟩
theorem RO_of {z : st_T} {T : tT} {L : List (Nat × (Nat → Nat))} {B : Bool} (h1 : z.1 75 13 = nI L.length) (h2 : z.1 75 14 = zb B) (hk : ∀ (k : Nat) (a : Nat × (Nat → Nat)), L[k]? = some a → z.2.1 99 k = nI a.1 ∧ ∀ i, i < T 8 2 → z.2.1 100 (16 * k + i) = nI (a.2 i)) : RO z T (L, B) := ⟨h1, fun _ => h2, hk⟩
theorem QW_rows {T : tT} {b : Nat} (hW : TW T) (h0 : ovf T = false) (h4 : (rowL T (stL T) b).length ≤ 4) : QW T (rowC T b, lefT T (stL T) b) := by
  refine QW_of (L := rowC T b) (by rw [rowC_len]; exact h4) h0 (fun k a ha i hi => ?_)
  obtain ⟨a', ha', -, e⟩ := rowC_at ha
  rw [e]
  exact okS_CK (stL_at (rcd_mem hW.1.1 (List.mem_of_getElem? ha') hi))
theorem mdQ_X : ∀ p ∈ mdQ, p < 101 := by decide
theorem e9_solve (l : Launch) (z : st_T) (T : tT) (Q : tQ) (hI : CI z T Q) (b : Int32) : ri_Ev l y9_solve w9_solve r9_solve 0 0 [.ref 16, .int b] (st_h z) (CO z (sp_solve T Q b)) := by
  obtain ⟨hW, hQ, hS, hR, hF, hO⟩ := id hI
  refine ri_ev (t9_solve l _) rfl rfl rfl (Nat.le_of_ble_eq_true rfl) rfl (z9_solve l _) (fun J hJ => ?_)
  have bad : bt 0 b 100 = false → CO z (sp_solve T Q b) (some (.int (-1))) (st_h z) := fun h => CO_same hI (by unfold sp_solve; rw [h]; rfl)
  refine ri_run_ok hJ [] 90 0 0 0 _ _ _ ?_
  refine ⟨fun c => bad (bt_lo c), fun c1 => ⟨fun c2 => ?_, fun c => bad (bt_hi (nlt_le c))⟩⟩
  have b1 : bt 0 b 100 = true := bt_in c1 (le_nlt c2)
  obtain ⟨n1, n2⟩ := nt_le (m := 100) (by decide) b1
  refine ⟨_, e4_prepare l z T hW hS hR hF, ?_⟩
  rintro r h' ⟨rfl, z', rfl, hB, h3, hm⟩
  have hI' := CI_prep hI hB h3 hm
  refine ⟨_, e4_overflows l z' T hW hI'.2.2.1 hB, ?_⟩
  rintro r h' ⟨rfl, rfl⟩
  refine ⟨fun c3 => ?_, fun c3 => ?_⟩
  · have h0 := zb_0.mp c3
    have h4 := ovf_few h0
    have e := e8_run l z' T hW hI'.2.2.1 hI'.2.2.2.1 (St := stL T) (beam := nt b) n1 (fun i hi => ⟨hB i hi, h4 i hi⟩) (fun i hi t y h => okS_CK (stL_at h))
    rw [n2] at e
    refine ⟨_, e, ?_⟩
    rintro r h' ⟨rfl, z2, rfl, q1, q2, q3, q4, q5⟩
    have hm2 : mq mdX z z2 := mq_tr (mq_mo hm (mdX_of (by decide))) (fun p hp => q5 p (fun q => hp (mdX_of mdQ_X p q)))
    refine CO_md (v := z2.1 75 13) (T := T) (Q := (rowC T (nt b), lefT T (stL T) (nt b))) ?_ ⟨hW, QW_rows hW h0 q4, RS_mq hI'.2.2.1 q5 mdQ_S, RH_mq hI'.2.2.2.1 q5 mdQ_H, Or.inr ⟨?_, ?_⟩, RO_of (L := rowC T (nt b)) ?_ q2 (fun k a ha => ?_)⟩ hm2 (fun p hp => List.mem_range.mp hp)
    · unfold sp_solve
      rw [b1, h0, q1, rowC_len]; rfl
    · rw [(q5 21 (by decide)).1]; exact h3
    · exact TB_md (by have := hW.1; omega) hB q5 (by decide)
    · rw [q1, rowC_len]
    · obtain ⟨a', ha', e1, e2⟩ := rowC_at ha
      refine ⟨?_, fun i hi => ?_⟩
      · rw [e1]; exact (q3 k a' ha').1
      · rw [e2]; exact (q3 k a' ha').2 i hi
  · have h0 := zb_1.mp c3
    have hl : Q.1.length = 0 := Decidable.byContradiction (fun q => by
      have := hQ.2.1 q
      rw [h0] at this; cases this)
    refine CO_md (T := T) (Q := Q0) (ps := mdL) ?_ ⟨hW, QW_0 T, hI'.2.2.1, hI'.2.2.2.1, hI'.2.2.2.2.1, ?_, fun q => absurd rfl q, fun k a h => by cases h⟩ (mq_md hm) (by decide)
    · unfold sp_solve
      rw [b1, h0]; rfl
    · have := hI'.2.2.2.2.2.1
      rw [hl] at this; exact this
theorem Q_at {Q : tQ} {k : Nat} (h : k < Q.1.length) : Q.1[k]? = some (Q.1.getD k (0, fun _ => 0)) := by
  rw [List.getD_eq_getElem?_getD, List.getElem?_eq_getElem h]; rfl
theorem e9_note (l : Launch) (z : st_T) (T : tT) (Q : tQ) (hI : CI z T Q) (k v i : Int32) : ri_Ev l y9_note w9_note r9_note 0 0 [.ref 16, .int k, .int v, .int i] (st_h z) (CO z (sp_note T Q k v i)) := by
  obtain ⟨hW, hQ, hS, hR, hF, hO⟩ := id hI
  refine ri_ev (t9_note l _) rfl rfl rfl (Nat.le_of_ble_eq_true rfl) rfl (z9_note l _) (fun J hJ => ?_)
  have bad : (okR Q k && (bt 0 v 3 && okP T i)) = false → CO z (sp_note T Q k v i) (some (.int (-1))) (st_h z) := fun h => CO_same hI (by unfold sp_note; rw [h]; rfl)
  refine ri_run_ok hJ [] 90 0 0 0 _ _ _ ?_
  refine ⟨_, e9_isRow l z T Q hQ hO k, ?_⟩
  rintro r h' ⟨rfl, rfl⟩
  refine ⟨fun c => bad (by rw [zb_0.mp c]; rfl), fun c1 => ?_⟩
  have b1 := zb_1.mp c1
  refine ⟨_, e9_isVoice l _ v, ?_⟩
  rintro r h' ⟨rfl, rfl⟩
  refine ⟨fun c => bad (by rw [zb_0.mp c, Bool.false_and, Bool.and_false]), fun c2 => ?_⟩
  have b2 := zb_1.mp c2
  refine ⟨_, e9_isPlace l z T hW hS i, ?_⟩
  rintro r h' ⟨rfl, rfl⟩
  refine ⟨fun c3 => ?_, fun c => bad (by rw [zb_0.mp (Decidable.not_not.mp c), Bool.and_false, Bool.and_false])⟩
  have b3 := zb_1.mp c3
  obtain ⟨k1, k2⟩ := okR_le hQ b1
  obtain ⟨v1, v2⟩ := nt_le (m := 3) (by decide) b2
  obtain ⟨i1, i2⟩ := okP_le hW b3
  have hn := hW.1
  have h4 := hQ.1
  have e := e8_codeAt l z (k := nt k) (i := nt i) (by omega) (by omega)
  rw [k2, i2] at e
  refine ⟨_, e, ?_⟩
  rintro r h' ⟨rfl, rfl⟩
  refine ⟨_, e11_pitchOf l _ v _, ?_⟩
  rintro r h' ⟨rfl, rfl⟩
  refine CO_same hI ?_
  unfold sp_note
  have hc := hQ.2.2 _ _ (Q_at k1) _ i1
  have ep : jv_pitch (z.2.1 100 (16 * nt k + nt i)) v = nI (pit (rwq Q (nt k) (nt i)) (nt v)) := by
    rw [(hO.2.2 _ _ (Q_at k1)).2 _ i1]
    have h := jv_pitch_n (x := rwq Q (nt k) (nt i)) (v := nt v) hc.1 (by omega)
    rw [v2] at h; exact h
  rw [b1, b2, b3, ep]; rfl
theorem e9_chord (l : Launch) (z : st_T) (T : tT) (Q : tQ) (hI : CI z T Q) (k i : Int32) : ri_Ev l y9_chord w9_chord r9_chord 0 0 [.ref 16, .int k, .int i] (st_h z) (CO z (sp_chord T Q k i)) := by
  obtain ⟨hW, hQ, hS, hR, hF, hO⟩ := id hI
  refine ri_ev (t9_chord l _) rfl rfl rfl (Nat.le_of_ble_eq_true rfl) rfl (z9_chord l _) (fun J hJ => ?_)
  have bad : (okR Q k && okP T i) = false → CO z (sp_chord T Q k i) (some (.int (-1))) (st_h z) := fun h => CO_same hI (by unfold sp_chord; rw [h]; rfl)
  refine ri_run_ok hJ [] 90 0 0 0 _ _ _ ?_
  refine ⟨_, e9_isRow l z T Q hQ hO k, ?_⟩
  rintro r h' ⟨rfl, rfl⟩
  refine ⟨fun c => bad (by rw [zb_0.mp c]; rfl), fun c1 => ?_⟩
  have b1 := zb_1.mp c1
  refine ⟨_, e9_isPlace l z T hW hS i, ?_⟩
  rintro r h' ⟨rfl, rfl⟩
  refine ⟨fun c3 => ?_, fun c => bad (by rw [zb_0.mp (Decidable.not_not.mp c), Bool.and_false])⟩
  have b3 := zb_1.mp c3
  obtain ⟨k1, k2⟩ := okR_le hQ b1
  obtain ⟨i1, i2⟩ := okP_le hW b3
  have hn := hW.1
  have h4 := hQ.1
  have e := e8_codeAt l z (k := nt k) (i := nt i) (by omega) (by omega)
  rw [k2, i2] at e
  refine ⟨_, e, ?_⟩
  rintro r h' ⟨rfl, rfl⟩
  refine ⟨_, e11_chordOf l _ _, ?_⟩
  rintro r h' ⟨rfl, rfl⟩
  refine CO_same hI ?_
  unfold sp_chord
  have hc := hQ.2.2 _ _ (Q_at k1) _ i1
  have ep : z.2.1 100 (16 * nt k + nt i) &&& 15 = nI (chd (rwq Q (nt k) (nt i))) := by
    rw [(hO.2.2 _ _ (Q_at k1)).2 _ i1]
    exact chd_n (x := rwq Q (nt k) (nt i)) hc.1
  rw [b1, b3, ep]; rfl
theorem e9_sum (l : Launch) (z : st_T) (T : tT) (Q : tQ) (hI : CI z T Q) (k : Int32) : ri_Ev l y9_sum w9_sum r9_sum 0 0 [.ref 16, .int k] (st_h z) (CO z (sp_sum T Q k)) := by
  obtain ⟨hW, hQ, hS, hR, hF, hO⟩ := id hI
  refine ri_ev (t9_sum l _) rfl rfl rfl (Nat.le_of_ble_eq_true rfl) rfl (z9_sum l _) (fun J hJ => ?_)
  refine ri_run_ok hJ [] 90 0 0 0 _ _ _ ?_
  refine ⟨_, e9_isRow l z T Q hQ hO k, ?_⟩
  rintro r h' ⟨rfl, rfl⟩
  refine ⟨fun c => CO_same hI (by unfold sp_sum; rw [zb_0.mp c]; rfl), fun c1 => ?_⟩
  have b1 := zb_1.mp c1
  obtain ⟨k1, k2⟩ := okR_le hQ b1
  have h4 := hQ.1
  refine ⟨nt_in k2 (by omega) (by decide), ?_⟩
  refine CO_same (v := z.2.1 99 (nt k)) hI ?_
  unfold sp_sum
  rw [b1, (hO.2.2 _ _ (Q_at k1)).1]; rfl
theorem e9_least (l : Launch) (z : st_T) (T : tT) (Q : tQ) (hI : CI z T Q) : ri_Ev l y9_least w9_least r9_least 0 0 [.ref 16] (st_h z) (CO z (sp_least T Q)) := by
  obtain ⟨hW, hQ, hS, hR, hF, hO⟩ := id hI
  refine ri_ev (t9_least l _) rfl rfl rfl (Nat.le_of_ble_eq_true rfl) rfl (z9_least l _) (fun J hJ => ?_)
  refine ri_run_ok hJ [] 90 0 0 0 _ _ _ ?_
  have h4 := hQ.1
  refine ⟨fun c => ?_, fun c => ?_⟩
  · have c : ¬ z.1 75 13 = 0 := c
    rw [hO.1, nk_eq (k := 0) (b := 0) rfl (by omega) (by decide)] at c
    have e := hO.2.1 c
    refine ⟨fun c2 => CO_same hI ?_, fun c2 => CO_same hI ?_⟩
    · have c2 : z.1 75 14 = 0 := c2
      rw [e] at c2
      unfold sp_least
      rw [if_neg c, zb_0.mp c2]; rfl
    · have c2 : ¬ z.1 75 14 = 0 := c2
      rw [e] at c2
      unfold sp_least
      rw [if_neg c, zb_1.mp c2]; rfl
  · have c : z.1 75 13 = 0 := Decidable.not_not.mp c
    rw [hO.1, nk_eq (k := 0) (b := 0) rfl (by omega) (by decide)] at c
    exact CO_same hI (by unfold sp_least; rw [if_pos c])
theorem fuF_lt {T : tT} : ∀ n i, fuF T n i = 99 ∨ (i ≤ fuF T n i ∧ fuF T n i < i + n)
  | 0, _ => Or.inl rfl
  | n + 1, i => by
    unfold fuF
    by_cases q : (stL T i).any (come T i) = true
    · rw [if_pos q]
      rcases fuF_lt (T := T) n (i + 1) with h | h
      · exact Or.inl h
      · exact Or.inr ⟨by omega, by omega⟩
    · rw [if_neg q]; exact Or.inr ⟨Nat.le_refl _, by omega⟩
theorem fu_lt {T : tT} (h : ¬ fu T = 99) : fu T < T 8 2 := by
  rcases fuF_lt (T := T) (T 8 2) 0 with h1 | h1
  · exact absurd h1 h
  · have := h1.2
    unfold fu; omega
theorem fu_0 {T : tT} (hn : 1 ≤ T 8 2) (h : fu T = 0) : stL T 0 = [] := by
  obtain ⟨m, hm⟩ : ∃ m, T 8 2 = m + 1 := ⟨T 8 2 - 1, by omega⟩
  unfold fu at h
  rw [hm] at h
  unfold fuF at h
  by_cases q : (stL T 0).any (come T 0) = true
  · rw [if_pos q] at h
    rcases fuF_lt (T := T) m (0 + 1) with h1 | h1
    · omega
    · omega
  · match e : stL T 0 with
    | [] => rfl
    | x :: X =>
      rw [e] at q
      exact absurd rfl q
set_option maxHeartbeats 1000000 in
theorem e9_blocked (l : Launch) (z : st_T) (T : tT) (Q : tQ) (hI : CI z T Q) (w : Int32) : ri_Ev l y9_blocked w9_blocked r9_blocked 0 0 [.ref 16, .int w] (st_h z) (CO z (sp_blocked T Q w)) := by
  obtain ⟨hW, hQ, hS, hR, hF, hO⟩ := id hI
  refine ri_ev (t9_blocked l _) rfl rfl rfl (Nat.le_of_ble_eq_true rfl) rfl (z9_blocked l _) (fun J hJ => ?_)
  have bad : bt 0 w 2 = false → CO z (sp_blocked T Q w) (some (.int (-1))) (st_h z) := fun h => CO_same hI (by unfold sp_blocked; rw [h]; rfl)
  have hn := hW.1
  refine ri_run_ok hJ [33] 90 0 0 0 _ _ _ ?_
  refine ⟨fun c => bad (bt_lo c), fun c1 => ⟨fun c2 => ?_, fun c => bad (bt_hi (nlt_le c))⟩⟩
  have b1 : bt 0 w 2 = true := bt_in c1 (le_nlt c2)
  have es : ∀ v, bkA T w = v → sp_blocked T Q w = (v, T, Q) := fun v e => by unfold sp_blocked; rw [b1, e]; rfl
  refine ⟨_, e4_prepare l z T hW hS hR hF, ?_⟩
  rintro r h' ⟨rfl, z', rfl, hB, h3, hm⟩
  have hI' := CI_prep hI hB h3 hm
  refine ⟨_, e4_overflows l z' T hW hI'.2.2.1 hB, ?_⟩
  rintro r h' ⟨rfl, rfl⟩
  refine ⟨fun c3 => ?_, fun c3 => ?_⟩
  · have h0 := zb_0.mp c3
    have h4 := ovf_few h0
    refine ⟨_, e6_firstUnreached l z' T hW hI'.2.2.1 hI'.2.2.2.1 hB h4, ?_⟩
    rintro r h' ⟨rfl, z2, rfl, hX, hm2⟩
    have hS2 : RS z2 T := RS_md hI'.2.2.1 hm2 mdM_S
    have hI2 : CI z2 T Q := CI_sc hI' hB h3 (mq_md hm2) hS2 mdM_H mdM_no (by decide) (by decide) (by decide) (by decide)
    have hB2 : TB z2 T (T 8 2) := TB_md (by omega) hB (mq_md hm2) mdM_no
    have h32 : z2.1 21 3 = 1 := by rw [(hm2.1 21 (by decide)).1]; exact h3
    have hx2 : mq mdX z z2 := mq_tr (mq_mo hm (mdX_of (by decide))) (mq_mo hm2 (mdX_of (by decide)))
    have fin : ∀ v, bkA T w = v → CO z (sp_blocked T Q w) (some (.int v)) (st_h z2) := fun v e => CO_md (es v e) hI2 hx2 (fun p hp => List.mem_range.mp hp)
    have hfb : fu T < 2 ^ 31 := by
      by_cases q : fu T = 99
      · omega
      · have := fu_lt q; omega
    have eb : bkA T w = if fu T = 99 then -2 else if w = 0 then nI (fu T) else if w = 1 then nI (stL T (fu T)).length else if (stL T (fu T)).length = 0 then brv T (fu T) else stp T (fu T - 1) := by
      unfold bkA; rw [h0]; rfl
    refine ⟨fun c4 => ?_, fun c4 => ?_⟩
    · have c4 : ¬ n9 (fu T) = -2 := c4
      rw [n9_non2 hfb] at c4
      have hf := fu_lt c4
      rw [if_neg c4] at eb
      have en : n9 (fu T) = nI (fu T) := if_neg c4
      refine ⟨fun c5 => ?_, fun c5 => ⟨fun c6 => ?_, fun c6 => ?_⟩⟩
      · have c5 : w = 0 := c5
        refine fin _ ?_
        rw [eb, if_pos c5, en]
      · have c5 : ¬ w = 0 := c5
        have c6 : w = 1 := c6
        have k35 : J 35 0 0 [some (.ref 16), some (.int w), some (.int (n9 (fu T)))] [.int (z2.1 (23 + 3 * fu T) 0)] (st_h z2) := by
          refine ri_go hJ [] 90 35 rfl ?_
          refine fin _ ?_
          rw [eb, if_neg c5, if_pos c6, (hB2 _ hf).1]
        have k33 := J_layer (z := z2) hJ (k := 33) (n := 34) (U := 0) (V := 0) (L := [some (.ref 16), some (.int w), some (.int (n9 (fu T)))]) (r := []) rfl (i := fu T) (by omega) (J_size hJ rfl (lyP_of (by omega)) k35)
        rw [← en] at k33
        exact k33
      · have c5 : ¬ w = 0 := c5
        have c6 : ¬ w = 1 := c6
        rw [if_neg c5, if_neg c6] at eb
        have hR2 : RH z2 T := hI2.2.2.2.1
        by_cases q : stL T (fu T) = []
        · have e := e6_barringRules0 l z2 T hW hS2 hR2 (i := fu T) hf (hB2 _ hf) q
          rw [← en] at e
          refine ⟨_, e, ?_⟩
          rintro r h' ⟨v, z3, rfl, rfl, hv, hm3⟩
          refine CO_md (es v ?_) (CI_sc hI2 hB2 h32 (mq_md hm3) (RS_md hS2 hm3 (by decide)) (by decide) (by decide) (by decide) (by decide) (by decide) (by decide)) (mq_tr hx2 (mq_mo hm3 (mdX_of (by decide)))) (fun p hp => List.mem_range.mp hp)
          rw [eb, if_pos (by rw [q]; rfl)]
          exact brv_eq hv
        · have h0n : ¬ fu T = 0 := fun e => q (by rw [e]; exact fu_0 hn.1 e)
          obtain ⟨i, hi⟩ : ∃ i, fu T = i + 1 := ⟨fu T - 1, by omega⟩
          have e := e6_barringRules1 l z2 T hW hS2 hR2 (i := i) (by omega) (hB2 _ (by omega)) (hB2 _ (by omega)) (h4 _ (by omega)) (h4 _ (by omega)) (MX_MK (hX i (by omega))) (by rw [← hi]; exact q)
          rw [← hi, ← en] at e
          refine ⟨_, e, ?_⟩
          rintro r h' ⟨rfl, z3, rfl, hm3⟩
          refine CO_md (es _ ?_) (CI_sc hI2 hB2 h32 (mq_md hm3) (RS_md hS2 hm3 sc3_S) sc3_H (by decide) (by decide) (by decide) (by decide) (by decide)) (mq_tr hx2 (mq_mo hm3 (mdX_of (by decide)))) (fun p hp => List.mem_range.mp hp)
          rw [eb, if_neg (fun e => q (List.length_eq_zero_iff.mp e)), hi]; rfl
    · have c4 : n9 (fu T) = -2 := Decidable.not_not.mp c4
      rw [n9_non2 hfb] at c4
      refine fin _ ?_
      rw [eb, if_pos c4]
  · have h0 := zb_1.mp c3
    refine CO_md (ps := mdL) (es _ ?_) hI' (mq_md hm) (by decide)
    unfold bkA; rw [h0]; rfl
theorem e9_repair (l : Launch) (z : st_T) (T : tT) (Q : tQ) (hI : CI z T Q) : ri_Ev l y9_repair w9_repair r9_repair 0 0 [.ref 16] (st_h z) (CO z (sp_repair T Q)) := by
  obtain ⟨hW, hQ, hS, hR, hF, hO⟩ := id hI
  refine ri_ev (t9_repair l _) rfl rfl rfl (Nat.le_of_ble_eq_true rfl) rfl (z9_repair l _) (fun J hJ => ?_)
  have hn := hW.1
  refine ri_run_ok hJ [] 90 0 0 0 _ _ _ ?_
  have es : ∀ v, rpA T = v → sp_repair T Q = (v, T, Q) := fun v e => by unfold sp_repair; rw [e]
  refine ⟨_, e4_prepare l z T hW hS hR hF, ?_⟩
  rintro r h' ⟨rfl, z', rfl, hB, h3, hm⟩
  have hI' := CI_prep hI hB h3 hm
  refine ⟨_, e4_overflows l z' T hW hI'.2.2.1 hB, ?_⟩
  rintro r h' ⟨rfl, rfl⟩
  refine ⟨fun c3 => ?_, fun c3 => ?_⟩
  · have h0 := zb_0.mp c3
    have h4 := ovf_few h0
    refine ⟨_, e6_firstUnreached l z' T hW hI'.2.2.1 hI'.2.2.2.1 hB h4, ?_⟩
    rintro r h' ⟨rfl, z2, rfl, hX, hm2⟩
    have hS2 : RS z2 T := RS_md hI'.2.2.1 hm2 mdM_S
    have hI2 : CI z2 T Q := CI_sc hI' hB h3 (mq_md hm2) hS2 mdM_H mdM_no (by decide) (by decide) (by decide) (by decide)
    have hB2 : TB z2 T (T 8 2) := TB_md (by omega) hB (mq_md hm2) mdM_no
    have h32 : z2.1 21 3 = 1 := by rw [(hm2.1 21 (by decide)).1]; exact h3
    have hx2 : mq mdX z z2 := mq_tr (mq_mo hm (mdX_of (by decide))) (mq_mo hm2 (mdX_of (by decide)))
    have hfb : fu T < 2 ^ 31 := by
      by_cases q : fu T = 99
      · omega
      · have := fu_lt q; omega
    have eb : rpA T = if fu T = 99 then -1 else gw T := by
      unfold rpA; rw [h0]; rfl
    refine ⟨fun c4 => ?_, fun c4 => ?_⟩
    · have c4 : ¬ n9 (fu T) = -2 := c4
      rw [n9_non2 hfb] at c4
      rw [if_neg c4] at eb
      refine ⟨_, e6_noteToGiveWay l z2 T hW hS2 hI2.2.2.2.1 hB2 h4 hX, ?_⟩
      rintro r h' ⟨rfl, z3, rfl, hS3, hm3⟩
      exact CO_md (es _ eb) (CI_sc hI2 hB2 h32 (mq_md hm3) hS3 (by decide) (by decide) (by decide) (by decide) (by decide) (by decide)) (mq_tr hx2 (mq_mo hm3 (mdX_of (by decide)))) (fun p hp => List.mem_range.mp hp)
    · have c4 : n9 (fu T) = -2 := Decidable.not_not.mp c4
      rw [n9_non2 hfb] at c4
      rw [if_pos c4] at eb
      exact CO_md (es _ eb) hI2 hx2 (fun p hp => List.mem_range.mp hp)
  · have h0 := zb_1.mp c3
    refine CO_md (ps := mdL) (es _ ?_) hI' (mq_md hm) (by decide)
    unfold rpA; rw [h0]; rfl
