/-! THE REFERENCE: what it holds, and the operations that tell -/
def nM (n : Nat) : Int32 := if n = 99 then -1 else nI n
def sJ : List Nat := [1, 0, 1, 0, 1, 1, 0, 1, 0, 1, 0, 1]
def sN : List Nat := [1, 0, 1, 1, 0, 1, 0, 1, 1, 0, 0, 1]
def RM (z : st_T) (T : tT) : Prop := (z.1 101 5 = nI (T 8 0) ∧ z.1 101 6 = nI (T 8 1) ∧ z.1 101 7 = nI (T 8 2)) ∧ (∀ j, j < 64 → z.2.1 106 j = nC (T 0 j)) ∧ (∀ i, i < 16 → z.2.1 107 i = nD (T 1 i) ∧ z.2.1 108 i = nD (T 2 i) ∧ z.2.1 109 i = nI (T 3 i)) ∧ (∀ c, c < 13 → z.2.1 110 c = nI (T 4 c)) ∧ (∀ k, k < 9 → z.2.1 111 k = nI (T 5 k)) ∧ (∀ v, v < 4 → z.2.1 112 v = nI (T 6 v) ∧ z.2.1 113 v = nI (T 7 v)) ∧ (∀ j, j < 52 → z.2.1 102 j = nM (mJ.getD j 99) ∧ z.2.1 103 j = nM (mN.getD j 99)) ∧ (∀ d, d < 12 → z.2.1 104 d = nI (sJ.getD d 0) ∧ z.2.1 105 d = nI (sN.getD d 0))
/-- the rows it found -/
def RQ (z : st_T) (T : tT) (Q : tQ) : Prop := z.1 101 26 = nI Q.1.length ∧ (¬ Q.1.length = 0 → z.1 101 30 = zb (!Q.2)) ∧ ∀ (k : Nat) (a : Nat × (Nat → Nat)), Q.1[k]? = some a → z.2.1 126 k = nI a.1 ∧ ∀ i, i < T 8 2 → (∀ v, v < 4 → z.2.1 124 (64 * k + (4 * i + v)) = nI (pit (a.2 i) v)) ∧ z.2.1 125 (16 * k + i) = nI (chd (a.2 i))
def MI (z : st_T) (T : tT) (Q : tQ) : Prop := RM z T ∧ RQ z T Q
/-- fields qs and arrays ps of the reference have changed -/
def mm (qs ps : List Nat) (z z' : st_T) : Prop := (∀ p, p ∉ ps → z'.2.1 p = z.2.1 p) ∧ (∀ f, f ∉ qs → z'.1 101 f = z.1 101 f) ∧ (∀ p, p ≠ 101 → z'.1 p = z.1 p) ∧ z'.2.2 = z.2.2
theorem mm_rf (qs ps : List Nat) (z : st_T) : mm qs ps z z := ⟨fun _ _ => rfl, fun _ _ => rfl, fun _ _ => rfl, rfl⟩
theorem mm_tr {qs ps : List Nat} {z z' z'' : st_T} (h : mm qs ps z z') (h' : mm qs ps z' z'') : mm qs ps z z'' := ⟨fun p hp => (h'.1 p hp).trans (h.1 p hp), fun f hf => (h'.2.1 f hf).trans (h.2.1 f hf), fun p hp => (h'.2.2.1 p hp).trans (h.2.2.1 p hp), h'.2.2.2.trans h.2.2.2⟩
theorem mm_mo {qs ps qs' ps' : List Nat} {z z' : st_T} (h : mm qs ps z z') (hq : ∀ f ∈ qs, f ∈ qs') (hp : ∀ p ∈ ps, p ∈ ps') : mm qs' ps' z z' := ⟨fun p hn => h.1 p (fun q => hn (hp p q)), fun f hn => h.2.1 f (fun q => hn (hq f q)), h.2.2⟩
theorem mm_fa {qs ps : List Nat} {z : st_T} {p : Nat} {g : Nat → Int32} (hp : p ∈ ps) : mm qs ps z (fa z p g) := ⟨fun q hq => va_up_ne _ _ (fun e => hq (e ▸ hp)), fun _ _ => rfl, fun _ _ => rfl, rfl⟩
theorem mm_fs {qs ps : List Nat} {z : st_T} {f : Nat} {x : Int32} (hf : f ∈ qs) : mm qs ps z (fs z 101 f x) := by
  refine ⟨fun _ _ => rfl, fun g hg => ?_, fun p hp => fs_ne _ _ _ hp, rfl⟩
  exact fs_ff _ (fun e => hg (e ▸ hf))
/-- the reference's places -/
def mdY : List Nat := [101, 102, 103, 104, 105, 106, 107, 108, 109, 110, 111, 112, 113, 114, 115, 116, 117, 118, 119, 120, 121, 122, 123, 124, 125, 126, 127, 128, 129]
theorem mm_md {qs ps : List Nat} {z z' : st_T} (h : mm qs ps z z') (hp : ∀ p ∈ ps, p ∈ mdY) : md mdY z z' := by
  refine ⟨fun p hn => ⟨?_, h.1 p (fun q => hn (hp p q))⟩, h.2.2.2⟩
  refine h.2.2.1 p (fun e => hn ?_)
  rw [e]; decide
theorem RM_mm {qs ps : List Nat} {z z' : st_T} {T : tT} (h : RM z T) (hm : mm qs ps z z') (hq : ∀ f ∈ qs, f < 5 ∨ 7 < f) (hp : ∀ p ∈ ps, 113 < p) : RM z' T := by
  obtain ⟨⟨a1, a2, a3⟩, b, c, d, e, f, g, k⟩ := h
  have fF : ∀ p, p ≤ 113 → z'.2.1 p = z.2.1 p := fun p h1 => hm.1 p (fun q => by have := hp p q; omega)
  have fS : ∀ f, 5 ≤ f → f ≤ 7 → z'.1 101 f = z.1 101 f := fun f h1 h2 => hm.2.1 f (fun q => by have := hq f q; omega)
  unfold RM
  rw [fS 5 (by decide) (by decide), fS 6 (by decide) (by decide), fS 7 (by decide) (by decide), fF 106 (by decide), fF 107 (by decide), fF 108 (by decide), fF 109 (by decide), fF 110 (by decide), fF 111 (by decide), fF 112 (by decide), fF 113 (by decide), fF 102 (by decide), fF 103 (by decide), fF 104 (by decide), fF 105 (by decide)]
  exact ⟨⟨a1, a2, a3⟩, b, c, d, e, f, g, k⟩
theorem RQ_mm {qs ps : List Nat} {z z' : st_T} {T : tT} {Q : tQ} (h : RQ z T Q) (hm : mm qs ps z z') (h26 : 26 ∉ qs) (h30 : 30 ∉ qs) (h1 : 124 ∉ ps) (h2 : 125 ∉ ps) (h3 : 126 ∉ ps) : RQ z' T Q := by
  unfold RQ
  rw [hm.2.1 26 h26, hm.2.1 30 h30, hm.1 124 h1, hm.1 125 h2, hm.1 126 h3]
  exact h
theorem MI_mm {qs ps : List Nat} {z z' : st_T} {T : tT} {Q : tQ} (h : MI z T Q) (hm : mm qs ps z z') (hq : ∀ f ∈ qs, (f < 5 ∨ 7 < f) ∧ ¬ f = 26 ∧ ¬ f = 30) (hp : ∀ p ∈ ps, 113 < p ∧ ¬ p = 124 ∧ ¬ p = 125 ∧ ¬ p = 126) : MI z' T Q :=
  ⟨RM_mm h.1 hm (fun f hf => (hq f hf).1) (fun p hf => (hp p hf).1), RQ_mm h.2 hm (fun q => (hq 26 q).2.1 rfl) (fun q => (hq 30 q).2.2 rfl) (fun q => (hp 124 q).2.1 rfl) (fun q => (hp 125 q).2.2.1 rfl) (fun q => (hp 126 q).2.2.2 rfl)⟩
def MO (z : st_T) (s : Int32 × tT × tQ) : ri_O := fun a h' => a = some (.int s.1) ∧ ∃ z', h' = st_h z' ∧ MI z' s.2.1 s.2.2 ∧ md mdY z z'
/-- nothing was thrown -/
def m0 (z : st_T) : st_T := fs z 101 0 0
theorem m0_mm (z : st_T) : mm [0] [] z (m0 z) := mm_fs (by decide)
theorem MI_0 {z : st_T} {T : tT} {Q : tQ} (h : MI z T Q) : MI (m0 z) T Q := MI_mm h (m0_mm z) (by decide) (by decide)
theorem MO_same {z : st_T} {T : tT} {Q : tQ} (hI : MI z T Q) {s : Int32 × tT × tQ} {v : Int32} (e : s = (v, T, Q)) : MO z s (some (.int v)) (st_h (m0 z)) := by
  rw [e]
  exact ⟨rfl, m0 z, rfl, MI_0 hI, mm_md (m0_mm z) (by decide)⟩
theorem MO_mm {z z' : st_T} {T : tT} {Q : tQ} {qs ps : List Nat} {s : Int32 × tT × tQ} {v : Int32} (e : s = (v, T, Q)) (hI : MI z' T Q) (hm : mm qs ps z z') (hp : ∀ p ∈ ps, p ∈ mdY) : MO z s (some (.int v)) (st_h z') := by
  rw [e]
  exact ⟨rfl, z', rfl, hI, mm_md hm hp⟩
theorem MO_put {z z' : st_T} {T : tT} {qs ps : List Nat} {s : Int32 × tT × tQ} {v : Int32} (e : s = (v, T, Q0)) (hM : RM z' T) (hm : mm qs ps z z') (hp : ∀ p ∈ ps, p ∈ mdY) (hq : 26 ∈ qs) : MO z s (some (.int v)) (st_h (fs z' 101 26 0)) := by
  refine MO_mm e ⟨RM_mm (qs := [26]) (ps := []) hM (mm_fs (by decide)) (by decide) (by decide), ?_, fun h => absurd rfl h, fun k a h => by cases h⟩ (mm_tr hm (mm_fs hq)) hp
  exact fs_self _ _ _ _
theorem ix4c {i v : Int32} (hi : nI (nt i) = i) (hv : nI (nt v) = v) : 4 * i + v = nI (4 * nt i + nt v) := by
  have h : nI 4 * nI (nt i) + nI (nt v) = nI (4 * nt i + nt v) := by rw [pk_mul, nI_add]
  rw [hi, hv] at h; exact h
theorem ix4d {i v : Nat} : 4 * nI i + nI v = nI (4 * i + v) := by
  have h : nI 4 * nI i + nI v = nI (4 * i + v) := by rw [pk_mul, nI_add]
  exact h
theorem e10_noPlace (l : Launch) (z : st_T) (T : tT) (hM : RM z T) (i : Int32) : ri_Ev l y10_noPlace w10_noPlace r10_noPlace 0 0 [.ref 117, .int i] (st_h z) (ri_is (zb (!okP T i)) (st_h z)) := by
  refine ri_ev (t10_noPlace l _) rfl rfl rfl (Nat.le_of_ble_eq_true rfl) rfl (z10_noPlace l _) (fun J hJ => ?_)
  refine ri_run_ok hJ [] 90 0 0 0 _ _ _ ?_
  refine ⟨_, e10_inI l (st_h z) i 0 (z.1 101 7 - 1) rfl rfl, ?_⟩
  rintro r h' ⟨rfl, rfl⟩
  have e : bt 0 i (z.1 101 7 - 1) = okP T i := by rw [hM.1.2.2]; rfl
  refine ⟨fun c => ⟨rfl, ?_, rfl⟩, fun c => ⟨rfl, ?_, rfl⟩⟩
  · rw [← e, zb_1.mp c]; rfl
  · rw [← e, zb_0.mp (Decidable.not_not.mp c)]; rfl
theorem e10_noRow (l : Launch) (z : st_T) (T : tT) (Q : tQ) (hQ : RQ z T Q) (i : Int32) : ri_Ev l y10_noRow w10_noRow r10_noRow 0 0 [.ref 117, .int i] (st_h z) (ri_is (zb (!okR Q i)) (st_h z)) := by
  refine ri_ev (t10_noRow l _) rfl rfl rfl (Nat.le_of_ble_eq_true rfl) rfl (z10_noRow l _) (fun J hJ => ?_)
  refine ri_run_ok hJ [] 90 0 0 0 _ _ _ ?_
  refine ⟨_, e10_inI l (st_h z) i 0 (z.1 101 26 - 1) rfl rfl, ?_⟩
  rintro r h' ⟨rfl, rfl⟩
  have e : bt 0 i (z.1 101 26 - 1) = okR Q i := by rw [hQ.1]; rfl
  refine ⟨fun c => ⟨rfl, ?_, rfl⟩, fun c => ⟨rfl, ?_, rfl⟩⟩
  · rw [← e, zb_1.mp c]; rfl
  · rw [← e, zb_0.mp (Decidable.not_not.mp c)]; rfl
theorem zbn_0 {b : Bool} : zb (!b) = 0 ↔ b = true := by cases b <;> decide
theorem zbn_1 {b : Bool} : ¬ zb (!b) = 0 ↔ b = false := by cases b <;> decide
theorem e10_key (l : Launch) (z : st_T) (T : tT) (Q : tQ) (hI : MI z T Q) (t m : Int32) : ri_Ev l y10_key w10_key r10_key 0 0 [.ref 117, .int t, .int m] (st_h z) (MO z (sp_key T Q t m)) := by
  obtain ⟨hM, hQ⟩ := id hI
  refine ri_ev (t10_key l _) rfl rfl rfl (Nat.le_of_ble_eq_true rfl) rfl (z10_key l _) (fun J hJ => ?_)
  have bad : (bt 0 t 11 && bt 0 m 1) = false → MO z (sp_key T Q t m) (some (.int (-1))) (st_h (m0 z)) := fun h => MO_same hI (by unfold sp_key; rw [h]; rfl)
  refine ri_run_ok hJ [] 90 0 0 0 _ _ _ ?_
  refine ⟨_, e10_inI l (st_h (m0 z)) t 0 11 rfl rfl, ?_⟩
  rintro r h' ⟨rfl, rfl⟩
  refine ⟨fun c => bad (by rw [zb_0.mp c]; rfl), fun c1 => ?_⟩
  have b1 := zb_1.mp c1
  refine ⟨_, e10_inI l (st_h (m0 z)) m 0 1 rfl rfl, ?_⟩
  rintro r h' ⟨rfl, rfl⟩
  refine ⟨fun c2 => ?_, fun c => bad (by rw [zb_0.mp (Decidable.not_not.mp c), Bool.and_false])⟩
  have b2 := zb_1.mp c2
  obtain ⟨k1, k2⟩ := nt_le (m := 11) (by decide) b1
  obtain ⟨v1, v2⟩ := nt_le (m := 1) (by decide) b2
  have fin : ∀ x : Int32, x = nI (nt m) → MO z (sp_key T Q t m) (some (.int 1)) (st_h (fs (fs (fs (m0 z) 101 5 t) 101 6 x) 101 26 0)) := by
    intro x hx
    refine MO_put (qs := [0, 5, 6, 26]) (ps := []) (T := stT (stT T 8 0 (nt t)) 8 1 (nt m)) (by unfold sp_key; rw [b1, b2]; rfl) ?_ (mm_tr (mm_tr (mm_fs (by decide)) (mm_fs (by decide))) (mm_fs (by decide))) (by decide) (by decide)
    obtain ⟨⟨a1, a2, a3⟩, r⟩ := hM
    refine ⟨⟨?_, ?_, ?_⟩, r⟩
    · rw [fs_ff _ (by decide), fs_self]; exact k2.symm
    · rw [fs_self]; exact hx
    · unfold m0
      rw [fs_ff _ (by decide), fs_ff _ (by decide), fs_ff _ (by decide)]; exact a3
  refine ⟨fun c => fin 0 ?_, fun c => fin 1 ?_⟩
  · have c : ¬ m = 1 := c
    have : ¬ nt m = 1 := fun q => c (by rw [← v2, q]; rfl)
    rw [show nt m = 0 by omega]; rfl
  · have c : m = 1 := Decidable.not_not.mp c
    rw [c]; rfl
theorem e10_cost (l : Launch) (z : st_T) (T : tT) (Q : tQ) (hI : MI z T Q) (k v : Int32) : ri_Ev l y10_cost w10_cost r10_cost 0 0 [.ref 117, .int k, .int v] (st_h z) (MO z (sp_cost T Q k v)) := by
  obtain ⟨hM, hQ⟩ := id hI
  refine ri_ev (t10_cost l _) rfl rfl rfl (Nat.le_of_ble_eq_true rfl) rfl (z10_cost l _) (fun J hJ => ?_)
  have bad : (bt 0 k 8 && bt 0 v 1000) = false → MO z (sp_cost T Q k v) (some (.int (-1))) (st_h (m0 z)) := fun h => MO_same hI (by unfold sp_cost; rw [h]; rfl)
  refine ri_run_ok hJ [] 90 0 0 0 _ _ _ ?_
  refine ⟨_, e10_inI l (st_h (m0 z)) k 0 8 rfl rfl, ?_⟩
  rintro r h' ⟨rfl, rfl⟩
  refine ⟨fun c => bad (by rw [zb_0.mp c]; rfl), fun c1 => ?_⟩
  have b1 := zb_1.mp c1
  refine ⟨_, e10_inI l (st_h (m0 z)) v 0 1000 rfl rfl, ?_⟩
  rintro r h' ⟨rfl, rfl⟩
  refine ⟨fun c2 => ?_, fun c => bad (by rw [zb_0.mp (Decidable.not_not.mp c), Bool.and_false])⟩
  have b2 := zb_1.mp c2
  obtain ⟨k1, k2⟩ := nt_le (m := 8) (by decide) b1
  obtain ⟨v1, v2⟩ := nt_le (m := 1000) (by decide) b2
  have ik : vp_in k 9 := nt_in k2 (by omega) (by decide)
  refine ⟨ik, ik, ?_⟩
  refine MO_put (z' := fa (m0 z) 111 (upd (z.2.1 111) (nt k) v)) (v := z.2.1 111 (nt k)) (qs := [0, 26]) (ps := [111]) (T := stT T 5 (nt k) (nt v)) ?_ ?_ (mm_tr (mm_fs (by decide)) (mm_fa (by decide))) (by decide) (by decide)
  · unfold sp_cost
    rw [b1, b2, hM.2.2.2.2.1 (nt k) (by omega)]; rfl
  · obtain ⟨a, b, c, d, e, f⟩ := RM_mm hM (m0_mm z) (by decide) (by decide)
    refine ⟨a, b, c, d, fun j hj => ?_, f⟩
    rw [fa_self, stT_s]
    by_cases q : j = nt k
    · rw [q, pk_us, if_pos rfl, v2]
    · rw [pk_un q, if_neg q]; exact e j hj
theorem e10_range (l : Launch) (z : st_T) (T : tT) (Q : tQ) (hI : MI z T Q) (v a b : Int32) : ri_Ev l y10_range w10_range r10_range 0 0 [.ref 117, .int v, .int a, .int b] (st_h z) (MO z (sp_range T Q v a b)) := by
  obtain ⟨hM, hQ⟩ := id hI
  refine ri_ev (t10_range l _) rfl rfl rfl (Nat.le_of_ble_eq_true rfl) rfl (z10_range l _) (fun J hJ => ?_)
  have bad : (bt 0 v 3 && (bt 36 a 84 && bt a b 84)) = false → MO z (sp_range T Q v a b) (some (.int (-1))) (st_h (m0 z)) := fun h => MO_same hI (by unfold sp_range; rw [h]; rfl)
  refine ri_run_ok hJ [] 90 0 0 0 _ _ _ ?_
  refine ⟨_, e10_inI l (st_h (m0 z)) v 0 3 rfl rfl, ?_⟩
  rintro r h' ⟨rfl, rfl⟩
  refine ⟨fun c => bad (by rw [zb_0.mp c]; rfl), fun c1 => ?_⟩
  have b1 := zb_1.mp c1
  refine ⟨_, e10_inI l (st_h (m0 z)) a 36 84 rfl rfl, ?_⟩
  rintro r h' ⟨rfl, rfl⟩
  refine ⟨fun c => bad (by rw [zb_0.mp c, Bool.false_and, Bool.and_false]), fun c2 => ?_⟩
  have b2 := zb_1.mp c2
  refine ⟨_, e10_inI l (st_h (m0 z)) b a 84 rfl rfl, ?_⟩
  rintro r h' ⟨rfl, rfl⟩
  refine ⟨fun c3 => ?_, fun c => bad (by rw [zb_0.mp (Decidable.not_not.mp c), Bool.and_false, Bool.and_false])⟩
  have b4 := zb_1.mp c3
  obtain ⟨v1, v2⟩ := nt_le (m := 3) (by decide) b1
  obtain ⟨a1, a2, a3⟩ := nt_ge (k := 36) (m := 84) (by decide) (by decide) b2
  have b5 : bt 36 b 84 = true := bt_iff.mpr ⟨Int.le_trans (bt_iff.mp b2).1 (bt_iff.mp b4).1, (bt_iff.mp b4).2⟩
  obtain ⟨d1, d2, d3⟩ := nt_ge (k := 36) (m := 84) (by decide) (by decide) b5
  have iv : vp_in v 4 := nt_in v2 (by omega) (by decide)
  refine ⟨iv, iv, ?_⟩
  refine MO_put (z' := fa (fa (m0 z) 112 (upd (z.2.1 112) (nt v) a)) 113 (upd (z.2.1 113) (nt v) b)) (v := 1) (qs := [0, 26]) (ps := [112, 113]) (T := stT (stT T 6 (nt v) (nt a)) 7 (nt v) (nt b)) ?_ ?_ (mm_tr (mm_fs (by decide)) (mm_tr (mm_fa (by decide)) (mm_fa (by decide)))) (by decide) (by decide)
  · unfold sp_range
    rw [b1, b2, b4]; rfl
  · obtain ⟨r1, r2, r3, r4, r5, r6, r7⟩ := RM_mm hM (m0_mm z) (by decide) (by decide)
    refine ⟨r1, r2, r3, r4, r5, fun j hj => ?_, r7⟩
    rw [fa_self, fa_ne _ _ (by decide), fa_self, stT_s, show stT (stT T 6 (nt v) (nt a)) 7 (nt v) (nt b) 6 j = if j = nt v then nt a else T 6 j from rfl, show stT T 6 (nt v) (nt a) 7 j = T 7 j from rfl]
    by_cases q : j = nt v
    · rw [q, pk_us, pk_us, if_pos rfl, if_pos rfl, a3, d3]; exact ⟨rfl, rfl⟩
    · rw [pk_un q, pk_un q, if_neg q, if_neg q]; exact r6 j hj
theorem e10_given (l : Launch) (z : st_T) (T : tT) (Q : tQ) (hW : TW T) (hI : MI z T Q) (v i p : Int32) : ri_Ev l y10_given w10_given r10_given 0 0 [.ref 117, .int v, .int i, .int p] (st_h z) (MO z (sp_given T Q v i p)) := by
  obtain ⟨hM, hQ⟩ := id hI
  have hM0 := RM_mm hM (m0_mm z) (by decide) (by decide)
  refine ri_ev (t10_given l _) rfl rfl rfl (Nat.le_of_ble_eq_true rfl) rfl (z10_given l _) (fun J hJ => ?_)
  have bad : (bt 0 v 3 && (okP T i && bt 36 p 84)) = false → MO z (sp_given T Q v i p) (some (.int (-1))) (st_h (m0 z)) := fun h => MO_same hI (by unfold sp_given; rw [h]; rfl)
  refine ri_run_ok hJ [] 90 0 0 0 _ _ _ ?_
  refine ⟨_, e10_inI l (st_h (m0 z)) v 0 3 rfl rfl, ?_⟩
  rintro r h' ⟨rfl, rfl⟩
  refine ⟨fun c => bad (by rw [zb_0.mp c]; rfl), fun c1 => ?_⟩
  have b1 := zb_1.mp c1
  refine ⟨_, e10_noPlace l (m0 z) T hM0 i, ?_⟩
  rintro r h' ⟨rfl, rfl⟩
  refine ⟨fun c => bad (by rw [zbn_1.mp c, Bool.false_and, Bool.and_false]), fun c2 => ?_⟩
  have b2 := zbn_0.mp (Decidable.not_not.mp c2)
  refine ⟨_, e10_inI l (st_h (m0 z)) p 36 84 rfl rfl, ?_⟩
  rintro r h' ⟨rfl, rfl⟩
  refine ⟨fun c3 => ?_, fun c => bad (by rw [zb_0.mp (Decidable.not_not.mp c), Bool.and_false, Bool.and_false])⟩
  have b3 := zb_1.mp c3
  obtain ⟨v1, v2⟩ := nt_le (m := 3) (by decide) b1
  obtain ⟨i1, i2⟩ := okP_le hW b2
  obtain ⟨p1, p2, p3⟩ := nt_ge (k := 36) (m := 84) (by decide) (by decide) b3
  have hn := hW.1
  have e := ix4c i2 v2
  have ii : vp_in (4 * i + v) 64 := by rw [e]; exact vp_in_nI (by omega) (by decide)
  have ec : (4 * i + v).toNatClampNeg = 4 * nt i + nt v := by rw [e]; exact cl31 (by omega)
  refine ⟨ii, ii, ?_⟩
  have := MO_put (z := z) (z' := fa (m0 z) 106 (upd (z.2.1 106) (4 * nt i + nt v) p)) (s := sp_given T Q v i p) (v := z.2.1 106 (4 * nt i + nt v)) (qs := [0, 26]) (ps := [106]) (T := stT T 0 (4 * nt i + nt v) (nt p)) ?_ ?_ (mm_tr (mm_fs (by decide)) (mm_fa (by decide))) (by decide) (by decide)
  · rw [← ec] at this; exact this
  · unfold sp_given
    rw [b1, b2, b3, hM.2.1 _ (by omega)]; rfl
  · obtain ⟨a, b, c⟩ := hM0
    refine ⟨a, fun j hj => ?_, c⟩
    rw [fa_self, stT_s]
    by_cases q : j = 4 * nt i + nt v
    · rw [q, pk_us, if_pos rfl]; unfold nC; rw [if_neg (by omega), p3]
    · rw [pk_un q, if_neg q]; exact b j hj
theorem e10_free (l : Launch) (z : st_T) (T : tT) (Q : tQ) (hW : TW T) (hI : MI z T Q) (v i : Int32) : ri_Ev l y10_free w10_free r10_free 0 0 [.ref 117, .int v, .int i] (st_h z) (MO z (sp_free T Q v i)) := by
  obtain ⟨hM, hQ⟩ := id hI
  have hM0 := RM_mm hM (m0_mm z) (by decide) (by decide)
  refine ri_ev (t10_free l _) rfl rfl rfl (Nat.le_of_ble_eq_true rfl) rfl (z10_free l _) (fun J hJ => ?_)
  have bad : (bt 0 v 3 && okP T i) = false → MO z (sp_free T Q v i) (some (.int (-1))) (st_h (m0 z)) := fun h => MO_same hI (by unfold sp_free; rw [h]; rfl)
  refine ri_run_ok hJ [] 90 0 0 0 _ _ _ ?_
  refine ⟨_, e10_inI l (st_h (m0 z)) v 0 3 rfl rfl, ?_⟩
  rintro r h' ⟨rfl, rfl⟩
  refine ⟨fun c => bad (by rw [zb_0.mp c]; rfl), fun c1 => ?_⟩
  have b1 := zb_1.mp c1
  refine ⟨_, e10_noPlace l (m0 z) T hM0 i, ?_⟩
  rintro r h' ⟨rfl, rfl⟩
  refine ⟨fun c2 => ?_, fun c => bad (by rw [zbn_1.mp c, Bool.and_false])⟩
  have b2 := zbn_0.mp c2
  obtain ⟨v1, v2⟩ := nt_le (m := 3) (by decide) b1
  obtain ⟨i1, i2⟩ := okP_le hW b2
  have hn := hW.1
  have e := ix4c i2 v2
  have ii : vp_in (4 * i + v) 64 := by rw [e]; exact vp_in_nI (by omega) (by decide)
  have ec : (4 * i + v).toNatClampNeg = 4 * nt i + nt v := by rw [e]; exact cl31 (by omega)
  refine ⟨ii, ii, ?_⟩
  have := MO_put (z := z) (z' := fa (m0 z) 106 (upd (z.2.1 106) (4 * nt i + nt v) (-2))) (s := sp_free T Q v i) (v := z.2.1 106 (4 * nt i + nt v)) (qs := [0, 26]) (ps := [106]) (T := stT T 0 (4 * nt i + nt v) 0) ?_ ?_ (mm_tr (mm_fs (by decide)) (mm_fa (by decide))) (by decide) (by decide)
  · rw [← ec] at this; exact this
  · unfold sp_free
    rw [b1, b2, hM.2.1 _ (by omega)]; rfl
  · obtain ⟨a, b, c⟩ := hM0
    refine ⟨a, fun j hj => ?_, c⟩
    rw [fa_self, stT_s]
    by_cases q : j = 4 * nt i + nt v
    · rw [q, pk_us, if_pos rfl]; rfl
    · rw [pk_un q, if_neg q]; exact b j hj
theorem e10_figure (l : Launch) (z : st_T) (T : tT) (Q : tQ) (hW : TW T) (hI : MI z T Q) (i c : Int32) : ri_Ev l y10_figure w10_figure r10_figure 0 0 [.ref 117, .int i, .int c] (st_h z) (MO z (sp_figure T Q i c)) := by
  obtain ⟨hM, hQ⟩ := id hI
  have hM0 := RM_mm hM (m0_mm z) (by decide) (by decide)
  refine ri_ev (t10_figure l _) rfl rfl rfl (Nat.le_of_ble_eq_true rfl) rfl (z10_figure l _) (fun J hJ => ?_)
  have bad : (okP T i && bt (-1) c 12) = false → MO z (sp_figure T Q i c) (some (.int (-1))) (st_h (m0 z)) := fun h => MO_same hI (by unfold sp_figure; rw [h]; rfl)
  refine ri_run_ok hJ [] 90 0 0 0 _ _ _ ?_
  refine ⟨_, e10_noPlace l (m0 z) T hM0 i, ?_⟩
  rintro r h' ⟨rfl, rfl⟩
  refine ⟨fun q => bad (by rw [zbn_1.mp q]; rfl), fun c1 => ?_⟩
  have b1 := zbn_0.mp (Decidable.not_not.mp c1)
  refine ⟨_, e10_inI l (st_h (m0 z)) c (-1) 12 rfl rfl, ?_⟩
  rintro r h' ⟨rfl, rfl⟩
  refine ⟨fun c2 => ?_, fun q => bad (by rw [zb_0.mp (Decidable.not_not.mp q), Bool.and_false])⟩
  have b2 := zb_1.mp c2
  obtain ⟨i1, i2⟩ := okP_le hW b1
  have hn := hW.1
  have ii : vp_in i 16 := nt_in i2 (by omega) (by decide)
  have hd := nD_c (m := 12) (by decide) b2
  have fin : ∀ x : Int32, x = nD (nt (c + 1)) → MO z (sp_figure T Q i c) (some (.int (z.2.1 107 (nt i)))) (st_h (fs (fa (m0 z) 107 (upd (z.2.1 107) (nt i) x)) 101 26 0)) := by
    intro x hx
    refine MO_put (qs := [0, 26]) (ps := [107]) (T := stT T 1 (nt i) (nt (c + 1))) ?_ ?_ (mm_tr (mm_fs (by decide)) (mm_fa (by decide))) (by decide) (by decide)
    · unfold sp_figure
      rw [b1, b2, (hM.2.2.1 _ (by omega)).1]; rfl
    · obtain ⟨s0, s1, s2, s3⟩ := hM0
      refine ⟨s0, s1, fun j hj => ⟨?_, (s2 j hj).2⟩, s3⟩
      rw [fa_self, stT_s]
      by_cases q : j = nt i
      · rw [q, pk_us, if_pos rfl, hx]
      · rw [pk_un q, if_neg q]; exact (s2 j hj).1
  refine ⟨ii, fun c4 => ⟨ii, fin c ?_⟩, fun c4 => ⟨ii, fin (-2) ?_⟩⟩
  · have c4 : (0 : Int32) ≤ c := c4
    exact (hd.2 (fun q => by rw [q] at c4; exact absurd c4 (by decide))).symm
  · have c4 : ¬ (0 : Int32) ≤ c := c4
    refine (hd.1 ?_).symm
    have h1 := (bt_iff.mp b2).1
    rw [i_leI] at c4
    apply Int32.toInt_inj.mp
    have e1 : (0 : Int32).toInt = 0 := rfl
    have e2 : (-1 : Int32).toInt = -1 := rfl
    omega
theorem e10_inversion (l : Launch) (z : st_T) (T : tT) (Q : tQ) (hW : TW T) (hI : MI z T Q) (i c : Int32) : ri_Ev l y10_inversion w10_inversion r10_inversion 0 0 [.ref 117, .int i, .int c] (st_h z) (MO z (sp_inversion T Q i c)) := by
  obtain ⟨hM, hQ⟩ := id hI
  have hM0 := RM_mm hM (m0_mm z) (by decide) (by decide)
  refine ri_ev (t10_inversion l _) rfl rfl rfl (Nat.le_of_ble_eq_true rfl) rfl (z10_inversion l _) (fun J hJ => ?_)
  have bad : (okP T i && bt (-1) c 3) = false → MO z (sp_inversion T Q i c) (some (.int (-1))) (st_h (m0 z)) := fun h => MO_same hI (by unfold sp_inversion; rw [h]; rfl)
  refine ri_run_ok hJ [] 90 0 0 0 _ _ _ ?_
  refine ⟨_, e10_noPlace l (m0 z) T hM0 i, ?_⟩
  rintro r h' ⟨rfl, rfl⟩
  refine ⟨fun q => bad (by rw [zbn_1.mp q]; rfl), fun c1 => ?_⟩
  have b1 := zbn_0.mp (Decidable.not_not.mp c1)
  refine ⟨_, e10_inI l (st_h (m0 z)) c (-1) 3 rfl rfl, ?_⟩
  rintro r h' ⟨rfl, rfl⟩
  refine ⟨fun c2 => ?_, fun q => bad (by rw [zb_0.mp (Decidable.not_not.mp q), Bool.and_false])⟩
  have b2 := zb_1.mp c2
  obtain ⟨i1, i2⟩ := okP_le hW b1
  have hn := hW.1
  have ii : vp_in i 16 := nt_in i2 (by omega) (by decide)
  have hd := nD_c (m := 3) (by decide) b2
  have fin : ∀ x : Int32, x = nD (nt (c + 1)) → MO z (sp_inversion T Q i c) (some (.int (z.2.1 108 (nt i)))) (st_h (fs (fa (m0 z) 108 (upd (z.2.1 108) (nt i) x)) 101 26 0)) := by
    intro x hx
    refine MO_put (qs := [0, 26]) (ps := [108]) (T := stT T 2 (nt i) (nt (c + 1))) ?_ ?_ (mm_tr (mm_fs (by decide)) (mm_fa (by decide))) (by decide) (by decide)
    · unfold sp_inversion
      rw [b1, b2, (hM.2.2.1 _ (by omega)).2.1]; rfl
    · obtain ⟨s0, s1, s2, s3⟩ := hM0
      refine ⟨s0, s1, fun j hj => ⟨(s2 j hj).1, ?_, (s2 j hj).2.2⟩, s3⟩
      rw [fa_self, stT_s]
      by_cases q : j = nt i
      · rw [q, pk_us, if_pos rfl, hx]
      · rw [pk_un q, if_neg q]; exact (s2 j hj).2.1
  refine ⟨ii, fun c4 => ⟨ii, fin c ?_⟩, fun c4 => ⟨ii, fin (-2) ?_⟩⟩
  · have c4 : (0 : Int32) ≤ c := c4
    exact (hd.2 (fun q => by rw [q] at c4; exact absurd c4 (by decide))).symm
  · have c4 : ¬ (0 : Int32) ≤ c := c4
    refine (hd.1 ?_).symm
    have h1 := (bt_iff.mp b2).1
    rw [i_leI] at c4
    apply Int32.toInt_inj.mp
    have e1 : (0 : Int32).toInt = 0 := rfl
    have e2 : (-1 : Int32).toInt = -1 := rfl
    omega
theorem e10_fermata (l : Launch) (z : st_T) (T : tT) (Q : tQ) (hW : TW T) (hI : MI z T Q) (i : Int32) (on : Bool) : ri_Ev l y10_fermata w10_fermata r10_fermata 0 0 [.ref 117, .int i, .int (zb on)] (st_h z) (MO z (sp_fermata T Q i on)) := by
  obtain ⟨hM, hQ⟩ := id hI
  have hM0 := RM_mm hM (m0_mm z) (by decide) (by decide)
  refine ri_ev (t10_fermata l _) rfl rfl rfl (Nat.le_of_ble_eq_true rfl) rfl (z10_fermata l _) (fun J hJ => ?_)
  have bad : okP T i = false → MO z (sp_fermata T Q i on) (some (.int (-1))) (st_h (m0 z)) := fun h => MO_same hI (by unfold sp_fermata; rw [h]; rfl)
  refine ri_run_ok hJ [] 90 0 0 0 _ _ _ ?_
  refine ⟨_, e10_noPlace l (m0 z) T hM0 i, ?_⟩
  rintro r h' ⟨rfl, rfl⟩
  refine ⟨fun c1 => ?_, fun q => bad (zbn_1.mp q)⟩
  have b1 := zbn_0.mp c1
  obtain ⟨i1, i2⟩ := okP_le hW b1
  have hn := hW.1
  have ii : vp_in i 16 := nt_in i2 (by omega) (by decide)
  have h3 := (hW.2.2.2.2.1 (nt i) (by omega)).2.2
  have e5 := (hM.2.2.1 (nt i) (by omega)).2.2
  have fin : ∀ x : Int32, x = nI (T 3 (nt i)) → MO z (sp_fermata T Q i on) (some (.int x)) (st_h (fs (fa (m0 z) 109 (upd (z.2.1 109) (nt i) (vp_nar .boolean (zb on)))) 101 26 0)) := by
    intro x hx
    refine MO_put (qs := [0, 26]) (ps := [109]) (T := stT T 3 (nt i) (bif on then 1 else 0)) ?_ ?_ (mm_tr (mm_fs (by decide)) (mm_fa (by decide))) (by decide) (by decide)
    · unfold sp_fermata
      rw [b1, hx]; rfl
    · obtain ⟨s0, s1, s2, s3⟩ := hM0
      refine ⟨s0, s1, fun j hj => ⟨(s2 j hj).1, (s2 j hj).2.1, ?_⟩, s3⟩
      rw [fa_self, stT_s]
      by_cases q : j = nt i
      · rw [q, pk_us, if_pos rfl]; cases on <;> rfl
      · rw [pk_un q, if_neg q]; exact (s2 j hj).2.2
  refine ⟨ii, fun c4 => ⟨ii, fin 0 ?_⟩, fun c4 => ⟨ii, fin 1 ?_⟩⟩
  · have c4 : z.2.1 109 (nt i) = 0 := c4
    rw [e5, nk_eq (k := 0) (b := 0) rfl (by omega) (by decide)] at c4
    rw [c4]; rfl
  · have c4 : ¬ z.2.1 109 (nt i) = 0 := c4
    rw [e5, nk_eq (k := 0) (b := 0) rfl (by omega) (by decide)] at c4
    rw [show T 3 (nt i) = 1 by omega]; rfl
theorem e10_style (l : Launch) (z : st_T) (T : tT) (Q : tQ) (hW : TW T) (hI : MI z T Q) (c : Int32) (on : Bool) : ri_Ev l y10_style w10_style r10_style 0 0 [.ref 117, .int c, .int (zb on)] (st_h z) (MO z (sp_style T Q c on)) := by
  obtain ⟨hM, hQ⟩ := id hI
  have hM0 := RM_mm hM (m0_mm z) (by decide) (by decide)
  refine ri_ev (t10_style l _) rfl rfl rfl (Nat.le_of_ble_eq_true rfl) rfl (z10_style l _) (fun J hJ => ?_)
  have bad : bt 0 c 12 = false → MO z (sp_style T Q c on) (some (.int (-1))) (st_h (m0 z)) := fun h => MO_same hI (by unfold sp_style; rw [h]; rfl)
  refine ri_run_ok hJ [] 90 0 0 0 _ _ _ ?_
  refine ⟨_, e10_inI l (st_h (m0 z)) c 0 12 rfl rfl, ?_⟩
  rintro r h' ⟨rfl, rfl⟩
  refine ⟨fun c1 => ?_, fun q => bad (zb_0.mp (Decidable.not_not.mp q))⟩
  have b1 := zb_1.mp c1
  obtain ⟨i1, i2⟩ := nt_le (m := 12) (by decide) b1
  have ii : vp_in c 13 := nt_in i2 (by omega) (by decide)
  have h3 := hW.2.2.2.2.2.1 (nt c) (by omega)
  have e5 := hM.2.2.2.1 (nt c) (by omega)
  have fin : ∀ x : Int32, x = nI (T 4 (nt c)) → MO z (sp_style T Q c on) (some (.int x)) (st_h (fs (fa (m0 z) 110 (upd (z.2.1 110) (nt c) (vp_nar .boolean (zb on)))) 101 26 0)) := by
    intro x hx
    refine MO_put (qs := [0, 26]) (ps := [110]) (T := stT T 4 (nt c) (bif on then 1 else 0)) ?_ ?_ (mm_tr (mm_fs (by decide)) (mm_fa (by decide))) (by decide) (by decide)
    · unfold sp_style
      rw [b1, hx]; rfl
    · obtain ⟨s0, s1, s2, s3, s4⟩ := hM0
      refine ⟨s0, s1, s2, fun j hj => ?_, s4⟩
      rw [fa_self, stT_s]
      by_cases q : j = nt c
      · rw [q, pk_us, if_pos rfl]; cases on <;> rfl
      · rw [pk_un q, if_neg q]; exact s3 j hj
  refine ⟨ii, fun c4 => ⟨ii, fin 0 ?_⟩, fun c4 => ⟨ii, fin 1 ?_⟩⟩
  · have c4 : z.2.1 110 (nt c) = 0 := c4
    rw [e5, nk_eq (k := 0) (b := 0) rfl (by omega) (by decide)] at c4
    rw [c4]; rfl
  · have c4 : ¬ z.2.1 110 (nt c) = 0 := c4
    rw [e5, nk_eq (k := 0) (b := 0) rfl (by omega) (by decide)] at c4
    rw [show T 4 (nt c) = 1 by omega]; rfl
