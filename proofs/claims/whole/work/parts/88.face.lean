/-! THE FACE: what is told (T), what was found (Q), and what an operation answers as a function of both -/
abbrev tQ : Type := List (Nat × (Nat → Nat)) × Bool
def Q0 : tQ := ([], false)
def nt (v : Int32) : Nat := v.toNatClampNeg
/-- from a to b -/
def bt (a x b : Int32) : Bool := decide (a ≤ x) && decide (x ≤ b)
theorem i_ltI {a b : Int32} : a < b ↔ a.toInt < b.toInt := Int32.lt_iff_toInt_lt
theorem i_leI {a b : Int32} : a ≤ b ↔ a.toInt ≤ b.toInt := Int32.le_iff_toInt_le
theorem bt_iff {a x b : Int32} : bt a x b = true ↔ (a.toInt ≤ x.toInt ∧ x.toInt ≤ b.toInt) := by
  unfold bt
  rw [Bool.and_eq_true, decide_eq_true_iff, decide_eq_true_iff, i_leI, i_leI]
theorem bt_lo {a x b : Int32} (h : x < a) : bt a x b = false := Bool.eq_false_iff.mpr (fun q => by
  have h1 := (bt_iff.mp q).1
  have h2 := i_ltI.mp h
  omega)
theorem bt_hi {a x b : Int32} (h : b < x) : bt a x b = false := Bool.eq_false_iff.mpr (fun q => by
  have h1 := (bt_iff.mp q).2
  have h2 := i_ltI.mp h
  omega)
theorem bt_in {a x b : Int32} (h1 : ¬ x < a) (h2 : ¬ b < x) : bt a x b = true := bt_iff.mpr (by
  rw [i_ltI] at h1 h2
  omega)
theorem gts {a b x : Int32} (e : a.toInt = b.toInt + 1) : a ≤ x ↔ b < x := by
  rw [i_leI, i_ltI]; omega
theorem nlt_le {a b : Int32} (h : ¬ a ≤ b) : b < a := by
  rw [i_leI] at h; rw [i_ltI]; omega
theorem le_nlt {a b : Int32} (h : a ≤ b) : ¬ b < a := by
  rw [i_leI] at h; rw [i_ltI]; omega
theorem nt_of {x : Int32} (h : ¬ x < 0) : nt x < 2 ^ 31 ∧ nI (nt x) = x := by
  obtain ⟨j, hj, rfl⟩ := nI_of h
  unfold nt
  rw [nI_clamp hj]
  exact ⟨hj, rfl⟩
theorem nt_le {x : Int32} {m : Nat} (hm : m < 2 ^ 31) (h : bt 0 x (nI m) = true) : nt x ≤ m ∧ nI (nt x) = x := by
  obtain ⟨h1, h2⟩ := bt_iff.mp h
  have h0 : ¬ x < 0 := by rw [i_ltI]; omega
  obtain ⟨a, b⟩ := nt_of h0
  refine ⟨?_, b⟩
  rw [← b, nI_toInt a, nI_toInt hm] at h2
  omega
theorem nt_ge {x : Int32} {m k : Nat} (hm : m < 2 ^ 31) (hk : k < 2 ^ 31) (h : bt (nI k) x (nI m) = true) : nt x ≤ m ∧ k ≤ nt x ∧ nI (nt x) = x := by
  obtain ⟨h1, h2⟩ := bt_iff.mp h
  have h0 : ¬ x < 0 := by
    rw [i_ltI]
    have e : (0 : Int32).toInt = 0 := rfl
    rw [nI_toInt hk] at h1
    omega
  obtain ⟨a, b⟩ := nt_of h0
  rw [← b, nI_toInt a, nI_toInt hm] at h2
  rw [← b, nI_toInt a, nI_toInt hk] at h1
  exact ⟨by omega, by omega, b⟩
theorem nt_n {n : Nat} (h : n < 2 ^ 31) : nt (nI n) = n := nI_clamp h
theorem nt_in {x : Int32} {N : Nat} (e : nI (nt x) = x) (h : nt x < N) (hN : N < 2 ^ 31) : vp_in x N := by
  rw [← e]; exact vp_in_nI h hN
theorem nI_sub1 {n : Nat} (h : 1 ≤ n) : nI n - 1 = nI (n - 1) := by
  obtain ⟨m, rfl⟩ : ∃ m, n = m + 1 := ⟨n - 1, by omega⟩
  exact nI_pred m
def okP (T : tT) (i : Int32) : Bool := bt 0 i (nI (T 8 2) - 1)
theorem okP_le {T : tT} (hW : TW T) {i : Int32} (h : okP T i = true) : nt i < T 8 2 ∧ nI (nt i) = i := by
  have hn := hW.1
  unfold okP at h
  rw [nI_sub1 hn.1] at h
  have := nt_le (by omega) h
  exact ⟨by omega, this.2⟩
def okR (Q : tQ) (k : Int32) : Bool := bt 0 k (nI Q.1.length - 1)
/-- what was found is a row of codes each -/
def QW (T : tT) (Q : tQ) : Prop := Q.1.length ≤ 4 ∧ (¬ Q.1.length = 0 → ovf T = false) ∧ ∀ (k : Nat) (a : Nat × (Nat → Nat)), Q.1[k]? = some a → ∀ i, i < T 8 2 → CK (a.2 i)
theorem okR_le {T : tT} {Q : tQ} (hQ : QW T Q) {k : Int32} (h : okR Q k = true) : nt k < Q.1.length ∧ nI (nt k) = k := by
  unfold okR at h
  have h4 := hQ.1
  by_cases q : Q.1.length = 0
  · rw [q] at h
    have := bt_iff.mp h
    have e1 : (0 : Int32).toInt = 0 := rfl
    have e2 : (nI 0 - 1).toInt = -1 := rfl
    omega
  · rw [nI_sub1 (by omega)] at h
    have := nt_le (by omega) h
    exact ⟨by omega, this.2⟩
/-- the search holds what was found -/
def RO (z : st_T) (T : tT) (Q : tQ) : Prop := z.1 75 13 = nI Q.1.length ∧ (¬ Q.1.length = 0 → z.1 75 14 = zb Q.2) ∧ ∀ (k : Nat) (a : Nat × (Nat → Nat)), Q.1[k]? = some a → z.2.1 99 k = nI a.1 ∧ ∀ i, i < T 8 2 → z.2.1 100 (16 * k + i) = nI (a.2 i)
/-- the class holds T and Q -/
def CI (z : st_T) (T : tT) (Q : tQ) : Prop := TW T ∧ QW T Q ∧ RS z T ∧ RH z T ∧ FR z T ∧ RO z T Q
/-- the class's places -/
def mdX : List Nat := List.range 101
theorem mdX_of {ps : List Nat} (h : ∀ p ∈ ps, p < 101) : ∀ p ∈ ps, p ∈ mdX := fun p hp => List.mem_range.mpr (h p hp)
def CO (z : st_T) (s : Int32 × tT × tQ) : ri_O := fun a h' => a = some (.int s.1) ∧ ∃ z', h' = st_h z' ∧ CI z' s.2.1 s.2.2 ∧ mq mdX z z'
theorem mq_rf (ps : List Nat) (z : st_T) : mq ps z z := fun _ _ => ⟨rfl, rfl⟩
theorem CO_same {z : st_T} {T : tT} {Q : tQ} (hI : CI z T Q) {s : Int32 × tT × tQ} {v : Int32} (e : s = (v, T, Q)) : CO z s (some (.int v)) (st_h z) := by
  rw [e]
  exact ⟨rfl, z, rfl, hI, mq_rf _ _⟩
theorem CO_md {z z' : st_T} {T : tT} {Q : tQ} {ps : List Nat} {s : Int32 × tT × tQ} {v : Int32} (e : s = (v, T, Q)) (hI : CI z' T Q) (hm : mq ps z z') (hp : ∀ p ∈ ps, p < 101) : CO z s (some (.int v)) (st_h z') := by
  rw [e]
  exact ⟨rfl, z', rfl, hI, fun p hq => hm p (fun q => hq (mdX_of hp p q))⟩
/-- all that was found is forgotten -/
def ff (z : st_T) : st_T := fs (fs (fs z 75 13 0) 75 14 0) 21 3 0
theorem ff_md (z : st_T) : md [75, 21] z (ff z) := md_tr (md_tr (md_fs (by decide)) (md_fs (by decide))) (md_fs (by decide))
theorem QW_0 (T : tT) : QW T Q0 := ⟨by decide, fun h => absurd rfl h, fun k a h => by cases h⟩
theorem CI_ff {z : st_T} {T : tT} (hW : TW T) (hS : RS z T) (hR : RH z T) : CI (ff z) T Q0 := by
  refine ⟨hW, QW_0 T, RS_md hS (ff_md z) (by decide), RH_md hR (ff_md z) (by decide), Or.inl (fs_self _ _ _ _), ?_, fun h => absurd rfl h, fun k a h => by cases h⟩
  show (ff z).1 75 13 = 0
  unfold ff
  rw [fs_ne _ _ _ (by decide), fs_ff _ (by decide), fs_self]
theorem CO_ff {z z' : st_T} {T : tT} {ps : List Nat} {s : Int32 × tT × tQ} {v : Int32} (e : s = (v, T, Q0)) (hW : TW T) (hS : RS z' T) (hR : RH z' T) (hm : md ps z z') (hp : ∀ p ∈ ps, p < 101) : CO z s (some (.int v)) (st_h (ff z')) :=
  CO_md (ps := mdX) e (CI_ff hW hS hR) (mq_tr (mq_mo hm (mdX_of hp)) (mq_mo (ff_md z') (mdX_of (by decide)))) (fun p hp => List.mem_range.mp hp)
theorem e4_spoil (l : Launch) (z : st_T) : ri_Ev l y4_spoil w4_spoil r4_spoil 0 0 [.ref 37] (st_h z) (ri_vo (st_h (fs z 21 3 0))) := by
  refine ri_ev (t4_spoil l _) rfl rfl rfl (Nat.le_of_ble_eq_true rfl) rfl (z4_spoil l _) (fun J hJ => ?_)
  refine ri_run_ok hJ [] 90 0 0 0 _ _ _ ?_
  exact ⟨rfl, rfl⟩
theorem e9_forgetFound (l : Launch) (z : st_T) : ri_Ev l y9_forgetFound w9_forgetFound r9_forgetFound 0 0 [.ref 16] (st_h z) (ri_vo (st_h (ff z))) := by
  refine ri_ev (t9_forgetFound l _) rfl rfl rfl (Nat.le_of_ble_eq_true rfl) rfl (z9_forgetFound l _) (fun J hJ => ?_)
  refine ri_run_ok hJ [] 90 0 0 0 _ _ _ ?_
  refine ⟨_, e8_forget l z, ?_⟩
  rintro r h' ⟨rfl, rfl⟩
  refine ⟨_, e4_spoil l (fs (fs z 75 13 0) 75 14 0), ?_⟩
  rintro r h' ⟨rfl, rfl⟩
  exact ⟨rfl, rfl⟩
theorem e9_isVoice (l : Launch) (h : List ri_C) (v : Int32) : ri_Ev l y9_isVoice w9_isVoice r9_isVoice 0 0 [.int v] h (ri_is (zb (bt 0 v 3)) h) := by
  refine ri_ev (t9_isVoice l _) rfl rfl rfl (Nat.le_of_ble_eq_true rfl) rfl (z9_isVoice l _) (fun J hJ => ?_)
  refine ri_run_ok hJ [] 90 0 0 0 _ _ _ ?_
  refine ⟨fun c => ⟨rfl, ?_, rfl⟩, fun c => ⟨fun c2 => ⟨rfl, ?_, rfl⟩, fun c2 => ⟨rfl, ?_, rfl⟩⟩⟩
  · rw [bt_lo c]; rfl
  · rw [bt_hi ((gts rfl).mp c2)]; rfl
  · rw [bt_in c (fun q => c2 ((gts rfl).mpr q))]; rfl
theorem e9_isChord (l : Launch) (h : List ri_C) (v : Int32) : ri_Ev l y9_isChord w9_isChord r9_isChord 0 0 [.int v] h (ri_is (zb (bt 0 v 12)) h) := by
  refine ri_ev (t9_isChord l _) rfl rfl rfl (Nat.le_of_ble_eq_true rfl) rfl (z9_isChord l _) (fun J hJ => ?_)
  refine ri_run_ok hJ [] 90 0 0 0 _ _ _ ?_
  refine ⟨fun c => ⟨rfl, ?_, rfl⟩, fun c => ⟨fun c2 => ⟨rfl, ?_, rfl⟩, fun c2 => ⟨rfl, ?_, rfl⟩⟩⟩
  · rw [bt_lo c]; rfl
  · rw [bt_hi ((gts rfl).mp c2)]; rfl
  · rw [bt_in c (fun q => c2 ((gts rfl).mpr q))]; rfl
theorem e9_isPitch (l : Launch) (h : List ri_C) (v : Int32) : ri_Ev l y9_isPitch w9_isPitch r9_isPitch 0 0 [.int v] h (ri_is (zb (bt 36 v 84)) h) := by
  refine ri_ev (t9_isPitch l _) rfl rfl rfl (Nat.le_of_ble_eq_true rfl) rfl (z9_isPitch l _) (fun J hJ => ?_)
  refine ri_run_ok hJ [] 90 0 0 0 _ _ _ ?_
  refine ⟨fun c => ⟨rfl, ?_, rfl⟩, fun c => ⟨fun c2 => ⟨rfl, ?_, rfl⟩, fun c2 => ⟨rfl, ?_, rfl⟩⟩⟩
  · rw [bt_lo c]; rfl
  · rw [bt_hi c2]; rfl
  · rw [bt_in c c2]; rfl
/-- x lies in 0 .. n - 1 -/
theorem bt_ix {x : Int32} {n : Nat} (hn : n < 2 ^ 31) : (x < 0 → bt 0 x (nI n - 1) = false) ∧ (nI n ≤ x → bt 0 x (nI n - 1) = false) ∧ (¬ x < 0 → ¬ nI n ≤ x → bt 0 x (nI n - 1) = true) := by
  have e : (nI n - 1).toInt = (nI n).toInt - 1 := by
    by_cases q : n = 0
    · rw [q]; rfl
    · rw [nI_sub1 (by omega), nI_toInt (by omega), nI_toInt hn]; omega
  refine ⟨fun c => bt_lo c, fun c => bt_hi ((gts (by omega)).mp c), fun c c2 => bt_in c (fun q => c2 ((gts (by omega)).mpr q))⟩
theorem e9_isPlace (l : Launch) (z : st_T) (T : tT) (hW : TW T) (hS : RS z T) (i : Int32) : ri_Ev l y9_isPlace w9_isPlace r9_isPlace 0 0 [.ref 16, .int i] (st_h z) (ri_is (zb (okP T i)) (st_h z)) := by
  refine ri_ev (t9_isPlace l _) rfl rfl rfl (Nat.le_of_ble_eq_true rfl) rfl (z9_isPlace l _) (fun J hJ => ?_)
  refine ri_run_ok hJ [] 90 0 0 0 _ _ _ ?_
  have hn := hW.1
  have hb := bt_ix (x := i) (n := T 8 2) (by omega)
  have e := hS.2.2.2.2.1
  refine ⟨fun c => ⟨rfl, ?_, rfl⟩, fun c => ⟨fun c2 => ⟨rfl, ?_, rfl⟩, fun c2 => ⟨rfl, ?_, rfl⟩⟩⟩
  · unfold okP; rw [hb.1 c]; rfl
  · have c2 : z.1 1 0 ≤ i := c2
    rw [e] at c2
    unfold okP; rw [hb.2.1 c2]; rfl
  · have c2 : ¬ z.1 1 0 ≤ i := c2
    rw [e] at c2
    unfold okP; rw [hb.2.2 c c2]; rfl
theorem e9_isRow (l : Launch) (z : st_T) (T : tT) (Q : tQ) (hQ : QW T Q) (hO : RO z T Q) (k : Int32) : ri_Ev l y9_isRow w9_isRow r9_isRow 0 0 [.ref 16, .int k] (st_h z) (ri_is (zb (okR Q k)) (st_h z)) := by
  refine ri_ev (t9_isRow l _) rfl rfl rfl (Nat.le_of_ble_eq_true rfl) rfl (z9_isRow l _) (fun J hJ => ?_)
  refine ri_run_ok hJ [] 90 0 0 0 _ _ _ ?_
  have hn := hQ.1
  have hb := bt_ix (x := k) (n := Q.1.length) (by omega)
  have e := hO.1
  refine ⟨fun c => ⟨rfl, ?_, rfl⟩, fun c => ⟨fun c2 => ⟨rfl, ?_, rfl⟩, fun c2 => ⟨rfl, ?_, rfl⟩⟩⟩
  · unfold okR; rw [hb.1 c]; rfl
  · have c2 : z.1 75 13 ≤ k := c2
    rw [e] at c2
    unfold okR; rw [hb.2.1 c2]; rfl
  · have c2 : ¬ z.1 75 13 ≤ k := c2
    rw [e] at c2
    unfold okR; rw [hb.2.2 c c2]; rfl
