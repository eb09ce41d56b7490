/-! THE FACE: the operations that tell -/
def stT (T : tT) (k j x : Nat) : tT := fun a => if a = k then (fun b => if b = j then x else T k b) else T a
theorem stT_s (T : tT) (k j x b : Nat) : stT T k j x k b = if b = j then x else T k b := by
  unfold stT; rw [if_pos rfl]
theorem TW_g {T : tT} (h : TW T) {i v x : Nat} (hi : i < T 8 2) (hv : v < 4) (hx : x = 0 ∨ (36 ≤ x ∧ x ≤ 84)) : TW (stT T 0 (4 * i + v) x) := by
  obtain ⟨a1, a2, a3, a4, a5, a6, a7, a8, a9⟩ := h
  refine ⟨a1, a2, a3, fun j hj => ?_, a5, a6, a7, a8, fun i' h1 h2 => ⟨fun v' hv' => ?_, (a9 i' h1 h2).2⟩⟩
  · rw [stT_s]
    by_cases q : j = 4 * i + v
    · rw [if_pos q]; exact hx
    · rw [if_neg q]; exact a4 j hj
  · have h1 : T 8 2 ≤ i' := h1
    rw [stT_s, if_neg (by omega)]
    exact (a9 i' h1 h2).1 v' hv'
theorem TW_f {T : tT} (h : TW T) {i x : Nat} (hi : i < T 8 2) (hx : x ≤ 13) : TW (stT T 1 i x) := by
  obtain ⟨a1, a2, a3, a4, a5, a6, a7, a8, a9⟩ := h
  refine ⟨a1, a2, a3, a4, fun j hj => ⟨?_, (a5 j hj).2⟩, a6, a7, a8, fun i' h1 h2 => ⟨(a9 i' h1 h2).1, ?_, (a9 i' h1 h2).2.2⟩⟩
  · rw [stT_s]
    by_cases q : j = i
    · rw [if_pos q]; exact hx
    · rw [if_neg q]; exact (a5 j hj).1
  · have h1 : T 8 2 ≤ i' := h1
    rw [stT_s, if_neg (by omega)]
    exact (a9 i' h1 h2).2.1
theorem TW_i {T : tT} (h : TW T) {i x : Nat} (hi : i < T 8 2) (hx : x ≤ 4) : TW (stT T 2 i x) := by
  obtain ⟨a1, a2, a3, a4, a5, a6, a7, a8, a9⟩ := h
  refine ⟨a1, a2, a3, a4, fun j hj => ⟨(a5 j hj).1, ?_, (a5 j hj).2.2⟩, a6, a7, a8, fun i' h1 h2 => ⟨(a9 i' h1 h2).1, (a9 i' h1 h2).2.1, ?_, (a9 i' h1 h2).2.2.2⟩⟩
  · rw [stT_s]
    by_cases q : j = i
    · rw [if_pos q]; exact hx
    · rw [if_neg q]; exact (a5 j hj).2.1
  · have h1 : T 8 2 ≤ i' := h1
    rw [stT_s, if_neg (by omega)]
    exact (a9 i' h1 h2).2.2.1
theorem TW_e {T : tT} (h : TW T) {i x : Nat} (hi : i < T 8 2) (hx : x ≤ 1) : TW (stT T 3 i x) := by
  obtain ⟨a1, a2, a3, a4, a5, a6, a7, a8, a9⟩ := h
  refine ⟨a1, a2, a3, a4, fun j hj => ⟨(a5 j hj).1, (a5 j hj).2.1, ?_⟩, a6, a7, a8, fun i' h1 h2 => ⟨(a9 i' h1 h2).1, (a9 i' h1 h2).2.1, (a9 i' h1 h2).2.2.1, ?_⟩⟩
  · rw [stT_s]
    by_cases q : j = i
    · rw [if_pos q]; exact hx
    · rw [if_neg q]; exact (a5 j hj).2.2
  · have h1 : T 8 2 ≤ i' := h1
    rw [stT_s, if_neg (by omega)]
    exact (a9 i' h1 h2).2.2.2
theorem TW_s {T : tT} (h : TW T) {c x : Nat} (hx : x ≤ 1) : TW (stT T 4 c x) := by
  obtain ⟨a1, a2, a3, a4, a5, a6, a7, a8, a9⟩ := h
  refine ⟨a1, a2, a3, a4, a5, fun j hj => ?_, a7, a8, a9⟩
  rw [stT_s]
  by_cases q : j = c
  · rw [if_pos q]; exact hx
  · rw [if_neg q]; exact a6 j hj
theorem TW_c {T : tT} (h : TW T) {c x : Nat} (hx : x ≤ 1000) : TW (stT T 5 c x) := by
  obtain ⟨a1, a2, a3, a4, a5, a6, a7, a8, a9⟩ := h
  refine ⟨a1, a2, a3, a4, a5, a6, fun j hj => ?_, a8, a9⟩
  rw [stT_s]
  by_cases q : j = c
  · rw [if_pos q]; exact hx
  · rw [if_neg q]; exact a7 j hj
theorem TW_r {T : tT} (h : TW T) {v x y : Nat} (hx : 36 ≤ x) (hxy : x ≤ y) (hy : y ≤ 84) : TW (stT (stT T 6 v x) 7 v y) := by
  obtain ⟨a1, a2, a3, a4, a5, a6, a7, a8, a9⟩ := h
  refine ⟨a1, a2, a3, a4, a5, a6, a7, fun j hj => ?_, a9⟩
  rw [stT_s, show stT (stT T 6 v x) 7 v y 6 j = if j = v then x else T 6 j from rfl, show stT T 6 v x 7 j = T 7 j from rfl]
  by_cases q : j = v
  · rw [if_pos q, if_pos q]; exact ⟨hx, hxy, hy⟩
  · rw [if_neg q, if_neg q]; exact a8 j hj
theorem TW_k {T : tT} (h : TW T) {t m : Nat} (ht : t < 12) (hm : m ≤ 1) : TW (stT (stT T 8 0 t) 8 1 m) := by
  obtain ⟨a1, a2, a3, a4, a5, a6, a7, a8, a9⟩ := h
  exact ⟨a1, ht, hm, a4, a5, a6, a7, a8, a9⟩
def clT (T : tT) (n : Nat) : tT := fun a => if a = 0 then (fun b => if 4 * n ≤ b then 0 else T 0 b) else if a = 1 then (fun b => if n ≤ b then 0 else T 1 b) else if a = 2 then (fun b => if n ≤ b then 0 else T 2 b) else if a = 3 then (fun b => if n ≤ b then 0 else T 3 b) else if a = 8 then (fun b => if b = 2 then n else T 8 b) else T a
theorem clT_0 (T : tT) (n b : Nat) : clT T n 0 b = if 4 * n ≤ b then 0 else T 0 b := rfl
theorem clT_1 (T : tT) (n b : Nat) : clT T n 1 b = if n ≤ b then 0 else T 1 b := rfl
theorem clT_2 (T : tT) (n b : Nat) : clT T n 2 b = if n ≤ b then 0 else T 2 b := rfl
theorem clT_3 (T : tT) (n b : Nat) : clT T n 3 b = if n ≤ b then 0 else T 3 b := rfl
theorem TW_p {T : tT} (h : TW T) {n : Nat} (h1 : 1 ≤ n) (h2 : n ≤ 16) : TW (clT T n) := by
  obtain ⟨a1, a2, a3, a4, a5, a6, a7, a8, a9⟩ := h
  refine ⟨⟨h1, h2⟩, a2, a3, fun j hj => ?_, fun i hi => ⟨?_, ?_, ?_⟩, a6, a7, a8, fun i q1 q2 => ⟨fun v hv => ?_, ?_, ?_, ?_⟩⟩
  · rw [clT_0]
    by_cases q : 4 * n ≤ j
    · rw [if_pos q]; exact Or.inl rfl
    · rw [if_neg q]; exact a4 j hj
  · rw [clT_1]
    by_cases q : n ≤ i
    · rw [if_pos q]; omega
    · rw [if_neg q]; exact (a5 i hi).1
  · rw [clT_2]
    by_cases q : n ≤ i
    · rw [if_pos q]; omega
    · rw [if_neg q]; exact (a5 i hi).2.1
  · rw [clT_3]
    by_cases q : n ≤ i
    · rw [if_pos q]; omega
    · rw [if_neg q]; exact (a5 i hi).2.2
  · have q1 : n ≤ i := q1
    rw [clT_0, if_pos (by omega)]
  · have q1 : n ≤ i := q1
    rw [clT_1, if_pos q1]
  · have q1 : n ≤ i := q1
    rw [clT_2, if_pos q1]
  · have q1 : n ≤ i := q1
    rw [clT_3, if_pos q1]
-- what they answer
def sp_key (T : tT) (Q : tQ) (t m : Int32) : Int32 × tT × tQ := bif bt 0 t 11 && bt 0 m 1 then (1, stT (stT T 8 0 (nt t)) 8 1 (nt m), Q0) else (-1, T, Q)
def sp_places (T : tT) (Q : tQ) (n : Int32) : Int32 × tT × tQ := bif bt 1 n 16 then (nI (T 8 2), clT T (nt n), Q0) else (-1, T, Q)
def sp_given (T : tT) (Q : tQ) (v i p : Int32) : Int32 × tT × tQ := bif bt 0 v 3 && (okP T i && bt 36 p 84) then (nC (T 0 (4 * nt i + nt v)), stT T 0 (4 * nt i + nt v) (nt p), Q0) else (-1, T, Q)
def sp_free (T : tT) (Q : tQ) (v i : Int32) : Int32 × tT × tQ := bif bt 0 v 3 && okP T i then (nC (T 0 (4 * nt i + nt v)), stT T 0 (4 * nt i + nt v) 0, Q0) else (-1, T, Q)
def sp_figure (T : tT) (Q : tQ) (i c : Int32) : Int32 × tT × tQ := bif okP T i && bt (-1) c 12 then (nD (T 1 (nt i)), stT T 1 (nt i) (nt (c + 1)), Q0) else (-1, T, Q)
def sp_inversion (T : tT) (Q : tQ) (i c : Int32) : Int32 × tT × tQ := bif okP T i && bt (-1) c 3 then (nD (T 2 (nt i)), stT T 2 (nt i) (nt (c + 1)), Q0) else (-1, T, Q)
def sp_fermata (T : tT) (Q : tQ) (i : Int32) (on : Bool) : Int32 × tT × tQ := bif okP T i then (nI (T 3 (nt i)), stT T 3 (nt i) (bif on then 1 else 0), Q0) else (-1, T, Q)
def sp_style (T : tT) (Q : tQ) (c : Int32) (on : Bool) : Int32 × tT × tQ := bif bt 0 c 12 then (nI (T 4 (nt c)), stT T 4 (nt c) (bif on then 1 else 0), Q0) else (-1, T, Q)
def sp_cost (T : tT) (Q : tQ) (k v : Int32) : Int32 × tT × tQ := bif bt 0 k 8 && bt 0 v 1000 then (nI (T 5 (nt k)), stT T 5 (nt k) (nt v), Q0) else (-1, T, Q)
def sp_range (T : tT) (Q : tQ) (v a b : Int32) : Int32 × tT × tQ := bif bt 0 v 3 && (bt 36 a 84 && bt a b 84) then (1, stT (stT T 6 (nt v) (nt a)) 7 (nt v) (nt b), Q0) else (-1, T, Q)
-- the class
theorem e9_cost (l : Launch) (z : st_T) (T : tT) (Q : tQ) (hI : CI z T Q) (k v : Int32) : ri_Ev l y9_cost w9_cost r9_cost 0 0 [.ref 16, .int k, .int v] (st_h z) (CO z (sp_cost T Q k v)) := by
  obtain ⟨hW, hQ, hS, hR, hF, hO⟩ := id hI
  refine ri_ev (t9_cost l _) rfl rfl rfl (Nat.le_of_ble_eq_true rfl) rfl (z9_cost l _) (fun J hJ => ?_)
  have bad : (bt 0 k 8 && bt 0 v 1000) = false → CO z (sp_cost T Q k v) (some (.int (-1))) (st_h z) := fun h => CO_same hI (by unfold sp_cost; rw [h]; rfl)
  refine ri_run_ok hJ [] 90 0 0 0 _ _ _ ?_
  refine ⟨fun c => bad (by rw [bt_lo c]; rfl), fun c1 => ⟨fun c => bad (by rw [bt_hi ((gts rfl).mp c)]; rfl), fun c2 => ⟨fun c => bad (by rw [bt_lo (x := v) c, Bool.and_false]), fun c3 => ⟨fun c4 => ?_, fun c => bad (by rw [bt_hi (x := v) (nlt_le c), Bool.and_false])⟩⟩⟩⟩
  have b1 : bt 0 k 8 = true := bt_in c1 (fun q => c2 ((gts rfl).mpr q))
  have b2 : bt 0 v 1000 = true := bt_in c3 (le_nlt c4)
  obtain ⟨k1, k2⟩ := nt_le (m := 8) (by decide) b1
  obtain ⟨v1, v2⟩ := nt_le (m := 1000) (by decide) b2
  have ik : vp_in k 9 := nt_in k2 (by omega) (by decide)
  refine ⟨ik, ik, _, e9_forgetFound l (fa z 6 (upd (z.2.1 6) (nt k) v)), ?_⟩
  rintro r h' ⟨rfl, rfl⟩
  refine CO_ff (v := z.2.1 6 (nt k)) (ps := [6]) (z' := fa z 6 (upd (z.2.1 6) (nt k) v)) (T := stT T 5 (nt k) (nt v)) ?_ (TW_c hW v1) ?_ (RH_md (T := T) hR (md_fa (ps := [6]) (by decide)) (by decide)) (md_fa (by decide)) (by decide)
  · unfold sp_cost
    rw [b1, b2, hS.2.2.1 (nt k) (by omega)]; rfl
  · obtain ⟨s1, s2, s3, s4⟩ := hS
    refine ⟨s1, s2, fun j hj => ?_, s4⟩
    rw [fa_self, stT_s]
    by_cases q : j = nt k
    · rw [q, pk_us, if_pos rfl, v2]
    · rw [pk_un q, if_neg q]; exact s3 j hj
theorem e9_range (l : Launch) (z : st_T) (T : tT) (Q : tQ) (hI : CI z T Q) (v a b : Int32) : ri_Ev l y9_range w9_range r9_range 0 0 [.ref 16, .int v, .int a, .int b] (st_h z) (CO z (sp_range T Q v a b)) := by
  obtain ⟨hW, hQ, hS, hR, hF, hO⟩ := id hI
  refine ri_ev (t9_range l _) rfl rfl rfl (Nat.le_of_ble_eq_true rfl) rfl (z9_range l _) (fun J hJ => ?_)
  have bad : (bt 0 v 3 && (bt 36 a 84 && bt a b 84)) = false → CO z (sp_range T Q v a b) (some (.int (-1))) (st_h z) := fun h => CO_same hI (by unfold sp_range; rw [h]; rfl)
  refine ri_run_ok hJ [] 90 0 0 0 _ _ _ ?_
  refine ⟨_, e9_isVoice l _ v, ?_⟩
  rintro r h' ⟨rfl, rfl⟩
  refine ⟨fun c => bad (by rw [zb_0.mp c]; rfl), fun c1 => ?_⟩
  have b1 := zb_1.mp c1
  refine ⟨_, e9_isPitch l _ a, ?_⟩
  rintro r h' ⟨rfl, rfl⟩
  refine ⟨fun c => bad (by rw [zb_0.mp c, Bool.false_and, Bool.and_false]), fun c2 => ?_⟩
  have b2 := zb_1.mp c2
  refine ⟨_, e9_isPitch l _ b, ?_⟩
  rintro r h' ⟨rfl, rfl⟩
  refine ⟨fun c => bad ?_, fun c3 => ⟨fun c4 => ?_, fun c => bad ?_⟩⟩
  · have c := zb_0.mp c
    have : bt a b 84 = false := Bool.eq_false_iff.mpr (fun q => by
      have h1 := bt_iff.mp q
      have h2 := bt_iff.mp b2
      have h3 : bt 36 b 84 = true := bt_iff.mpr ⟨by omega, h1.2⟩
      rw [h3] at c; cases c)
    rw [this, Bool.and_false, Bool.and_false]
  · have b3 := bt_iff.mp (zb_1.mp c3)
    have c4 : a ≤ b := c4
    have b4 : bt a b 84 = true := bt_iff.mpr ⟨i_leI.mp c4, b3.2⟩
    obtain ⟨v1, v2⟩ := nt_le (m := 3) (by decide) b1
    obtain ⟨a1, a2, a3⟩ := nt_ge (k := 36) (m := 84) (by decide) (by decide) b2
    obtain ⟨d1, d2, d3⟩ := nt_ge (k := 36) (m := 84) (by decide) (by decide) (zb_1.mp c3)
    have hab : nt a ≤ nt b := by
      rw [← a3, ← d3, nn_le (by omega) (by omega)] at c4
      exact c4
    have iv : vp_in v 4 := nt_in v2 (by omega) (by decide)
    refine ⟨iv, iv, _, e9_forgetFound l (fa (fa z 7 (upd (z.2.1 7) (nt v) a)) 8 (upd (z.2.1 8) (nt v) b)), ?_⟩
    rintro r h' ⟨rfl, rfl⟩
    refine CO_ff (v := 1) (ps := [7, 8]) (z' := fa (fa z 7 (upd (z.2.1 7) (nt v) a)) 8 (upd (z.2.1 8) (nt v) b)) (T := stT (stT T 6 (nt v) (nt a)) 7 (nt v) (nt b)) ?_ (TW_r hW a2 hab d1) ?_ (RH_md (T := T) hR (md_tr (md_fa (ps := [7, 8]) (by decide)) (md_fa (by decide))) (by decide)) (md_tr (md_fa (by decide)) (md_fa (by decide))) (by decide)
    · unfold sp_range
      rw [b1, b2, b4]; rfl
    · obtain ⟨s1, s2, s3, s4, s5⟩ := hS
      refine ⟨s1, s2, s3, fun j hj => ?_, s5⟩
      rw [fa_self, fa_ne _ _ (by decide), fa_self, stT_s, show stT (stT T 6 (nt v) (nt a)) 7 (nt v) (nt b) 6 j = if j = nt v then nt a else T 6 j from rfl, show stT T 6 (nt v) (nt a) 7 j = T 7 j from rfl]
      by_cases q : j = nt v
      · rw [q, pk_us, pk_us, if_pos rfl, if_pos rfl, a3, d3]; exact ⟨rfl, rfl⟩
      · rw [pk_un q, pk_un q, if_neg q, if_neg q]; exact s4 j hj
  · have c : ¬ a ≤ b := c
    rw [bt_lo (nlt_le c), Bool.and_false, Bool.and_false]
theorem e9_setPitch (l : Launch) (z : st_T) {v i : Nat} (hv : v < 4) (hi : i < 16) (p : Int32) : ri_Ev l y9_setPitch w9_setPitch r9_setPitch 0 0 [.ref 16, .int (nI v), .int (nI i), .int p] (st_h z) (ri_is (z.2.1 2 (4 * i + v)) (st_h (ff (fa z 2 (upd (z.2.1 2) (4 * i + v) p))))) := by
  refine ri_ev (t9_setPitch l _) rfl rfl rfl (Nat.le_of_ble_eq_true rfl) rfl (z9_setPitch l _) (fun J hJ => ?_)
  refine ri_run_ok hJ [] 90 0 0 0 _ _ _ ?_
  have e : nI i * 4 + nI v = nI (4 * i + v) := ix4
  have ii : vp_in (nI i * 4 + nI v) 64 := by rw [e]; exact vp_in_nI (by omega) (by decide)
  refine ⟨ii, ii, _, e9_forgetFound l (fa z 2 (upd (z.2.1 2) (nI i * 4 + nI v).toNatClampNeg p)), ?_⟩
  rintro r h' ⟨rfl, rfl⟩
  refine ⟨?_, ?_⟩
  · show some (Value.int (z.2.1 2 (nI i * 4 + nI v).toNatClampNeg)) = _
    rw [e, cl31 (by omega)]
  · rw [e, cl31 (by omega)]
theorem RS_g {z : st_T} {T : tT} (hS : RS z T) (j0 x : Nat) (p : Int32) (hp : p = nC x) : RS (fa z 2 (upd (z.2.1 2) j0 p)) (stT T 0 j0 x) := by
  obtain ⟨s1, s2⟩ := hS
  refine ⟨fun j hj => ?_, s2⟩
  rw [fa_self, stT_s]
  by_cases q : j = j0
  · rw [q, pk_us, if_pos rfl, hp]
  · rw [pk_un q, if_neg q]; exact s1 j hj
theorem e9_given (l : Launch) (z : st_T) (T : tT) (Q : tQ) (hI : CI z T Q) (v i p : Int32) : ri_Ev l y9_given w9_given r9_given 0 0 [.ref 16, .int v, .int i, .int p] (st_h z) (CO z (sp_given T Q v i p)) := by
  obtain ⟨hW, hQ, hS, hR, hF, hO⟩ := id hI
  refine ri_ev (t9_given l _) rfl rfl rfl (Nat.le_of_ble_eq_true rfl) rfl (z9_given l _) (fun J hJ => ?_)
  have bad : (bt 0 v 3 && (okP T i && bt 36 p 84)) = false → CO z (sp_given T Q v i p) (some (.int (-1))) (st_h z) := fun h => CO_same hI (by unfold sp_given; rw [h]; rfl)
  refine ri_run_ok hJ [] 90 0 0 0 _ _ _ ?_
  refine ⟨_, e9_isVoice l _ v, ?_⟩
  rintro r h' ⟨rfl, rfl⟩
  refine ⟨fun c => bad (by rw [zb_0.mp c]; rfl), fun c1 => ?_⟩
  have b1 := zb_1.mp c1
  refine ⟨_, e9_isPlace l z T hW hS i, ?_⟩
  rintro r h' ⟨rfl, rfl⟩
  refine ⟨fun c => bad (by rw [zb_0.mp c, Bool.false_and, Bool.and_false]), fun c2 => ?_⟩
  have b2 := zb_1.mp c2
  refine ⟨_, e9_isPitch l _ p, ?_⟩
  rintro r h' ⟨rfl, rfl⟩
  refine ⟨fun c3 => ?_, fun c => bad (by rw [zb_0.mp (Decidable.not_not.mp c), Bool.and_false, Bool.and_false])⟩
  have b3 := zb_1.mp c3
  obtain ⟨v1, v2⟩ := nt_le (m := 3) (by decide) b1
  obtain ⟨i1, i2⟩ := okP_le hW b2
  obtain ⟨p1, p2, p3⟩ := nt_ge (k := 36) (m := 84) (by decide) (by decide) b3
  have hn := hW.1
  have e := e9_setPitch l z (v := nt v) (i := nt i) (by omega) (by omega) p
  rw [v2, i2] at e
  refine ⟨_, e, ?_⟩
  rintro r h' ⟨rfl, rfl⟩
  refine CO_ff (ps := [2]) (T := stT T 0 (4 * nt i + nt v) (nt p)) ?_ (TW_g hW i1 (by omega) (Or.inr ⟨p2, p1⟩)) (RS_g hS _ _ _ (by unfold nC; rw [if_neg (by omega), p3])) (RH_md (T := T) hR (md_fa (ps := [2]) (by decide)) (by decide)) (md_fa (by decide)) (by decide)
  unfold sp_given
  rw [b1, b2, b3, hS.1 _ (by omega)]; rfl
theorem e9_free (l : Launch) (z : st_T) (T : tT) (Q : tQ) (hI : CI z T Q) (v i : Int32) : ri_Ev l y9_free w9_free r9_free 0 0 [.ref 16, .int v, .int i] (st_h z) (CO z (sp_free T Q v i)) := by
  obtain ⟨hW, hQ, hS, hR, hF, hO⟩ := id hI
  refine ri_ev (t9_free l _) rfl rfl rfl (Nat.le_of_ble_eq_true rfl) rfl (z9_free l _) (fun J hJ => ?_)
  have bad : (bt 0 v 3 && okP T i) = false → CO z (sp_free T Q v i) (some (.int (-1))) (st_h z) := fun h => CO_same hI (by unfold sp_free; rw [h]; rfl)
  refine ri_run_ok hJ [] 90 0 0 0 _ _ _ ?_
  refine ⟨_, e9_isVoice l _ v, ?_⟩
  rintro r h' ⟨rfl, rfl⟩
  refine ⟨fun c => bad (by rw [zb_0.mp c]; rfl), fun c1 => ?_⟩
  have b1 := zb_1.mp c1
  refine ⟨_, e9_isPlace l z T hW hS i, ?_⟩
  rintro r h' ⟨rfl, rfl⟩
  refine ⟨fun c2 => ?_, fun c => bad (by rw [zb_0.mp (Decidable.not_not.mp c), Bool.and_false])⟩
  have b2 := zb_1.mp c2
  obtain ⟨v1, v2⟩ := nt_le (m := 3) (by decide) b1
  obtain ⟨i1, i2⟩ := okP_le hW b2
  have hn := hW.1
  have e := e9_setPitch l z (v := nt v) (i := nt i) (by omega) (by omega) (-2)
  rw [v2, i2] at e
  refine ⟨_, e, ?_⟩
  rintro r h' ⟨rfl, rfl⟩
  refine CO_ff (ps := [2]) (T := stT T 0 (4 * nt i + nt v) 0) ?_ (TW_g hW i1 (by omega) (Or.inl rfl)) (RS_g hS _ _ _ rfl) (RH_md (T := T) hR (md_fa (ps := [2]) (by decide)) (by decide)) (md_fa (by decide)) (by decide)
  unfold sp_free
  rw [b1, b2, hS.1 _ (by omega)]; rfl
/-- an optional number: -1 says that there is none -/
theorem nt_m1 {c : Int32} {m : Nat} (hm : m < 2 ^ 30) (h : bt (-1) c (nI m) = true) : nt (c + 1) ≤ m + 1 ∧ (c = -1 → nt (c + 1) = 0) ∧ (¬ c = -1 → nI (nt (c + 1) - 1) = c ∧ ¬ nt (c + 1) = 0) := by
  by_cases q : c = -1
  · subst q
    exact ⟨by show (0 : Nat) ≤ _; omega, fun _ => rfl, fun q => absurd rfl q⟩
  · have h0 : ¬ c < 0 := by
      obtain ⟨h1, h2⟩ := bt_iff.mp h
      rw [i_ltI]
      have e1 : (0 : Int32).toInt = 0 := rfl
      have e2 : (-1 : Int32).toInt = -1 := rfl
      have : ¬ c.toInt = -1 := fun e => q (Int32.toInt_inj.mp (by rw [e, e2]))
      omega
    obtain ⟨j, hj, rfl⟩ := nI_of h0
    have hjm : j ≤ m := by
      have := (bt_iff.mp h).2
      rw [nI_toInt hj, nI_toInt (by omega)] at this
      omega
    have e : nI j + 1 = nI (j + 1) := nI_1 j
    rw [e, nt_n (by omega)]
    exact ⟨by omega, fun e => absurd e q, fun _ => ⟨rfl, by omega⟩⟩
theorem nD_c {c : Int32} {m : Nat} (hm : m < 2 ^ 30) (h : bt (-1) c (nI m) = true) : (c = -1 → nD (nt (c + 1)) = -2) ∧ (¬ c = -1 → nD (nt (c + 1)) = c) := by
  obtain ⟨-, a, b⟩ := nt_m1 hm h
  refine ⟨fun q => ?_, fun q => ?_⟩
  · rw [a q]; rfl
  · unfold nD; rw [if_neg (b q).2]; exact (b q).1
theorem e9_figure (l : Launch) (z : st_T) (T : tT) (Q : tQ) (hI : CI z T Q) (i c : Int32) : ri_Ev l y9_figure w9_figure r9_figure 0 0 [.ref 16, .int i, .int c] (st_h z) (CO z (sp_figure T Q i c)) := by
  obtain ⟨hW, hQ, hS, hR, hF, hO⟩ := id hI
  refine ri_ev (t9_figure l _) rfl rfl rfl (Nat.le_of_ble_eq_true rfl) rfl (z9_figure l _) (fun J hJ => ?_)
  have bad : (okP T i && bt (-1) c 12) = false → CO z (sp_figure T Q i c) (some (.int (-1))) (st_h z) := fun h => CO_same hI (by unfold sp_figure; rw [h]; rfl)
  refine ri_run_ok hJ [] 90 0 0 0 _ _ _ ?_
  refine ⟨_, e9_isPlace l z T hW hS i, ?_⟩
  rintro r h' ⟨rfl, rfl⟩
  refine ⟨fun q => bad (by rw [zb_0.mp q]; rfl), fun c1 => ⟨fun q => bad (by rw [bt_lo (x := c) q, Bool.and_false]), fun c2 => ⟨fun c3 => ?_, fun q => bad ?_⟩⟩⟩
  · have b1 := zb_1.mp c1
    have c3 : c < 13 := c3
    have b2 : bt (-1) c 12 = true := bt_in c2 (fun q => by rw [i_ltI] at c3 q; have e1 : (13 : Int32).toInt = 13 := rfl; have e2 : (12 : Int32).toInt = 12 := rfl; omega)
    obtain ⟨i1, i2⟩ := okP_le hW b1
    have hn := hW.1
    have ii : vp_in i 16 := nt_in i2 (by omega) (by decide)
    have hc := nt_m1 (m := 12) (by decide) b2
    have hd := nD_c (m := 12) (by decide) b2
    have fin : ∀ x : Int32, x = nD (nt (c + 1)) → CO z (sp_figure T Q i c) (some (.int (z.2.1 3 (nt i)))) (st_h (ff (fa z 3 (upd (z.2.1 3) (nt i) x)))) := by
      intro x hx
      refine CO_ff (ps := [3]) (T := stT T 1 (nt i) (nt (c + 1))) ?_ (TW_f hW i1 (by omega)) ?_ (RH_md (T := T) hR (md_fa (ps := [3]) (by decide)) (by decide)) (md_fa (by decide)) (by decide)
      · unfold sp_figure
        rw [b1, b2, (hS.2.1 _ (by omega)).1]; rfl
      · obtain ⟨s1, s2, s3⟩ := hS
        refine ⟨s1, fun j hj => ⟨?_, (s2 j hj).2⟩, s3⟩
        rw [fa_self, stT_s]
        by_cases q : j = nt i
        · rw [q, pk_us, if_pos rfl, hx]
        · rw [pk_un q, if_neg q]; exact (s2 j hj).1
    refine ⟨ii, fun c4 => ⟨ii, _, e9_forgetFound l (fa z 3 (upd (z.2.1 3) (nt i) c)), ?_⟩, fun c4 => ⟨ii, _, e9_forgetFound l (fa z 3 (upd (z.2.1 3) (nt i) (-2))), ?_⟩⟩
    · rintro r h' ⟨rfl, rfl⟩
      exact fin c (hd.2 c4).symm
    · rintro r h' ⟨rfl, rfl⟩
      exact fin (-2) (hd.1 (Decidable.not_not.mp c4)).symm
  · have q : ¬ c < 13 := q
    have : bt (-1) c 12 = false := bt_hi (by rw [i_ltI] at q ⊢; have e1 : (13 : Int32).toInt = 13 := rfl; have e2 : (12 : Int32).toInt = 12 := rfl; omega)
    rw [this, Bool.and_false]
theorem e9_inversion (l : Launch) (z : st_T) (T : tT) (Q : tQ) (hI : CI z T Q) (i c : Int32) : ri_Ev l y9_inversion w9_inversion r9_inversion 0 0 [.ref 16, .int i, .int c] (st_h z) (CO z (sp_inversion T Q i c)) := by
  obtain ⟨hW, hQ, hS, hR, hF, hO⟩ := id hI
  refine ri_ev (t9_inversion l _) rfl rfl rfl (Nat.le_of_ble_eq_true rfl) rfl (z9_inversion l _) (fun J hJ => ?_)
  have bad : (okP T i && bt (-1) c 3) = false → CO z (sp_inversion T Q i c) (some (.int (-1))) (st_h z) := fun h => CO_same hI (by unfold sp_inversion; rw [h]; rfl)
  refine ri_run_ok hJ [] 90 0 0 0 _ _ _ ?_
  refine ⟨_, e9_isPlace l z T hW hS i, ?_⟩
  rintro r h' ⟨rfl, rfl⟩
  refine ⟨fun q => bad (by rw [zb_0.mp q]; rfl), fun c1 => ⟨fun q => bad (by rw [bt_lo (x := c) q, Bool.and_false]), fun c2 => ⟨fun c3 => ?_, fun q => bad ?_⟩⟩⟩
  · have b1 := zb_1.mp c1
    have c3 : c < 4 := c3
    have b2 : bt (-1) c 3 = true := bt_in c2 (fun q => by rw [i_ltI] at c3 q; have e1 : (4 : Int32).toInt = 4 := rfl; have e2 : (3 : Int32).toInt = 3 := rfl; omega)
    obtain ⟨i1, i2⟩ := okP_le hW b1
    have hn := hW.1
    have ii : vp_in i 16 := nt_in i2 (by omega) (by decide)
    have hc := nt_m1 (m := 3) (by decide) b2
    have hd := nD_c (m := 3) (by decide) b2
    have fin : ∀ x : Int32, x = nD (nt (c + 1)) → CO z (sp_inversion T Q i c) (some (.int (z.2.1 4 (nt i)))) (st_h (ff (fa z 4 (upd (z.2.1 4) (nt i) x)))) := by
      intro x hx
      refine CO_ff (ps := [4]) (T := stT T 2 (nt i) (nt (c + 1))) ?_ (TW_i hW i1 (by omega)) ?_ (RH_md (T := T) hR (md_fa (ps := [4]) (by decide)) (by decide)) (md_fa (by decide)) (by decide)
      · unfold sp_inversion
        rw [b1, b2, (hS.2.1 _ (by omega)).2.1]; rfl
      · obtain ⟨s1, s2, s3⟩ := hS
        refine ⟨s1, fun j hj => ⟨(s2 j hj).1, ?_, (s2 j hj).2.2⟩, s3⟩
        rw [fa_self, stT_s]
        by_cases q : j = nt i
        · rw [q, pk_us, if_pos rfl, hx]
        · rw [pk_un q, if_neg q]; exact (s2 j hj).2.1
    refine ⟨ii, fun c4 => ⟨ii, _, e9_forgetFound l (fa z 4 (upd (z.2.1 4) (nt i) c)), ?_⟩, fun c4 => ⟨ii, _, e9_forgetFound l (fa z 4 (upd (z.2.1 4) (nt i) (-2))), ?_⟩⟩
    · rintro r h' ⟨rfl, rfl⟩
      exact fin c (hd.2 c4).symm
    · rintro r h' ⟨rfl, rfl⟩
      exact fin (-2) (hd.1 (Decidable.not_not.mp c4)).symm
  · have q : ¬ c < 4 := q
    have : bt (-1) c 3 = false := bt_hi (by rw [i_ltI] at q ⊢; have e1 : (4 : Int32).toInt = 4 := rfl; have e2 : (3 : Int32).toInt = 3 := rfl; omega)
    rw [this, Bool.and_false]
theorem e9_fermata (l : Launch) (z : st_T) (T : tT) (Q : tQ) (hI : CI z T Q) (i : Int32) (on : Bool) : ri_Ev l y9_fermata w9_fermata r9_fermata 0 0 [.ref 16, .int i, .int (zb on)] (st_h z) (CO z (sp_fermata T Q i on)) := by
  obtain ⟨hW, hQ, hS, hR, hF, hO⟩ := id hI
  refine ri_ev (t9_fermata l _) rfl rfl rfl (Nat.le_of_ble_eq_true rfl) rfl (z9_fermata l _) (fun J hJ => ?_)
  have bad : okP T i = false → CO z (sp_fermata T Q i on) (some (.int (-1))) (st_h z) := fun h => CO_same hI (by unfold sp_fermata; rw [h]; rfl)
  refine ri_run_ok hJ [] 90 0 0 0 _ _ _ ?_
  refine ⟨_, e9_isPlace l z T hW hS i, ?_⟩
  rintro r h' ⟨rfl, rfl⟩
  refine ⟨fun c1 => ?_, fun q => bad (zb_0.mp (Decidable.not_not.mp q))⟩
  have b1 := zb_1.mp c1
  obtain ⟨i1, i2⟩ := okP_le hW b1
  have hn := hW.1
  have ii : vp_in i 16 := nt_in i2 (by omega) (by decide)
  have h3 := (hW.2.2.2.2.1 (nt i) (by omega)).2.2
  have e5 := (hS.2.1 (nt i) (by omega)).2.2
  have fin : ∀ x : Int32, x = nI (T 3 (nt i)) → CO z (sp_fermata T Q i on) (some (.int x)) (st_h (ff (fa z 5 (upd (z.2.1 5) (nt i) (vp_nar .boolean (zb on)))))) := by
    intro x hx
    refine CO_ff (ps := [5]) (T := stT T 3 (nt i) (bif on then 1 else 0)) ?_ (TW_e hW i1 (by cases on <;> decide)) ?_ (RH_md (T := T) hR (md_fa (ps := [5]) (by decide)) (by decide)) (md_fa (by decide)) (by decide)
    · unfold sp_fermata
      rw [b1, hx]; rfl
    · obtain ⟨s1, s2, s3⟩ := hS
      refine ⟨s1, fun j hj => ⟨(s2 j hj).1, (s2 j hj).2.1, ?_⟩, s3⟩
      rw [fa_self, stT_s]
      by_cases q : j = nt i
      · rw [q, pk_us, if_pos rfl]; cases on <;> rfl
      · rw [pk_un q, if_neg q]; exact (s2 j hj).2.2
  refine ⟨ii, fun c4 => ⟨ii, _, e9_forgetFound l (fa z 5 (upd (z.2.1 5) (nt i) (vp_nar .boolean (zb on)))), ?_⟩, fun c4 => ⟨ii, _, e9_forgetFound l (fa z 5 (upd (z.2.1 5) (nt i) (vp_nar .boolean (zb on)))), ?_⟩⟩
  · rintro r h' ⟨rfl, rfl⟩
    have c4 : z.2.1 5 (nt i) = 0 := c4
    rw [e5, nk_eq (k := 0) (b := 0) rfl (by omega) (by decide)] at c4
    exact fin 0 (by rw [c4]; rfl)
  · rintro r h' ⟨rfl, rfl⟩
    have c4 : ¬ z.2.1 5 (nt i) = 0 := c4
    rw [e5, nk_eq (k := 0) (b := 0) rfl (by omega) (by decide)] at c4
    exact fin 1 (by rw [show T 3 (nt i) = 1 by omega]; rfl)
