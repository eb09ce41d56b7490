/-! StateRules: surveyVoices, canMiss, canDouble, someBreak3 -/
def ri_zbx (P : Bool → st_T → Prop) : ri_O := fun r h' => ∃ b z', r = some (.int (zb b)) ∧ h' = st_h z' ∧ P b z'
theorem SV_md {z z' : st_T} {T : tT} {i c v : Nat} (h : SV z T i c v) (h5 : z'.2.1 15 v = z.2.1 15 v ∧ z'.2.1 16 v = z.2.1 16 v ∧ z'.2.1 17 v = z.2.1 17 v) : SV z' T i c v := SVI_eq h h5.1 h5.2.1 h5.2.2
def NE (T : tT) (i c v : Nat) : Prop := ∃ p, p < 100 ∧ vpA T i c v p = true
theorem e2_surveyVoices (l : Launch) (z : st_T) (T : tT) (hW : TW T) (hS : RS z T) (hR : RH z T) {i c : Nat} (hi : i < 16) (hc : c < 13) : ri_Ev l y2_surveyVoices w2_surveyVoices r2_surveyVoices 0 0 [.ref 30, .int (nI i), .int (nI c)] (st_h z) (ri_zbx fun b z' => md md7 z z' ∧ (b = true → ∀ v, v < 4 → SV z' T i c v ∧ NE T i c v) ∧ (b = false → ∃ v, v < 4 ∧ ¬ NE T i c v)) := by
  refine ri_ev (t2_surveyVoices l _) rfl rfl rfl (Nat.le_of_ble_eq_true rfl) rfl (z2_surveyVoices l _) (fun J hJ => ?_)
  have loop : ∀ n v, n + v = 4 → ∀ z1, md md7 z z1 → (∀ u, u < v → SV z1 T i c u ∧ NE T i c u) → J 2 0 0 [some (.ref 30), some (.int (nI i)), some (.int (nI c)), some (.int (nI v))] [] (st_h z1) := by
    intro n
    induction n with
    | zero =>
      intro v hv z1 hm hV
      have hv4 : v = 4 := by omega
      subst hv4
      refine ri_go hJ [2] 60 2 rfl ?_
      exact ⟨fun _ => ⟨rfl, true, z1, rfl, rfl, hm, fun _ => hV, fun q => Bool.noConfusion q⟩, fun c => absurd (by decide) c⟩
    | succ n ih =>
      intro v hv z1 hm hV
      have e1 := nI_1 v
      have iv : vp_in (nI v) 4 := vp_in_nI (by omega) (by decide)
      refine ri_go hJ [2] 60 2 rfl ?_
      refine ⟨fun c => absurd c (nI_ge (a := v) (b := 4) (by omega) (by decide)), fun _ => ⟨_, e2_surveyVoice l z1 T hW (RS_md hS hm (by decide)) (RH_md hR hm (by decide)) hi hc (v := v) (by omega), ?_⟩⟩
      rintro r h' ⟨rfl, z2, rfl, hV2, hO2, hm2⟩
      have hE := SVI_emp hV2 (fun p q => (vpA_all q).2.2.1)
      refine ⟨iv, fun d => ?_, fun d => ⟨rfl, false, z2, rfl, rfl, md_tr hm hm2, fun q => Bool.noConfusion q, fun _ => ⟨v, by omega, ?_⟩⟩⟩
      · have d : ¬ z2.2.1 17 (nI v).toNatClampNeg = 0 := d
        rw [cl31 (by omega), hE] at d
        have := ih (v + 1) (by omega) z2 (md_tr hm hm2) (fun u hu => by
          by_cases q : u = v
          · rw [q]; exact ⟨hV2, Classical.not_not.mp d⟩
          · exact ⟨SV_md (hV u (by omega)).1 (hO2 u q), (hV u (by omega)).2⟩)
        rw [← e1] at this
        exact this
      · have d : z2.2.1 17 (nI v).toNatClampNeg = 0 := Decidable.not_not.mp d
        rw [cl31 (by omega), hE] at d
        exact d
  exact ri_run_ok hJ [2] 60 0 0 0 _ _ _ (loop 4 0 rfl z (md_rf _ _) (fun u hu => absurd hu (by omega)))
def MM (z : st_T) (M : Nat → Nat → Bool) : Prop := ∀ v, v < 4 → z.2.1 17 v = nI (msk (M v) 4)
def only (M : Nat → Nat → Bool) (k v : Nat) : Bool := msk (M v) 4 == 2 ^ k
theorem ms16 (P : Nat → Bool) : msk P 4 < 2 ^ 31 := Nat.lt_trans (msk_lt P 4) (by decide)
theorem p16 {k : Nat} (h : k < 4) : 2 ^ k < 2 ^ 31 := Nat.pow_lt_pow_right (by decide) (by omega)
theorem e2_canMiss (l : Launch) (z : st_T) {M : Nat → Nat → Bool} (hM : MM z M) {k : Nat} (hk : k < 4) : ri_Ev l y2_canMiss w2_canMiss r2_canMiss 0 0 [.ref 30, .int (nI k)] (st_h z) (ri_is (zb (!(anf (only M k) 4 0))) (st_h z)) := by
  refine ri_ev (t2_canMiss l _) rfl rfl rfl (Nat.le_of_ble_eq_true rfl) rfl (z2_canMiss l _) (fun J hJ => ?_)
  have loop : ∀ n v, n + v = 4 → anf (only M k) 4 0 = anf (only M k) n v → J 2 0 0 [some (.ref 30), some (.int (nI k)), some (.int (nI v))] [] (st_h z) := by
    intro n
    induction n with
    | zero =>
      intro v hv e
      have hv4 : v = 4 := by omega
      subst hv4
      refine ri_go hJ [2] 60 2 rfl ?_
      exact ⟨fun _ => ⟨rfl, by rw [e]; rfl, rfl⟩, fun c => absurd (by decide) c⟩
    | succ n ih =>
      intro v hv e
      have e1 := nI_1 v
      have iv : vp_in (nI v) 4 := vp_in_nI (by omega) (by decide)
      have hz : z.2.1 17 (nI v).toNatClampNeg = nI (msk (M v) 4) := by rw [cl31 (by omega)]; exact hM v (by omega)
      refine ri_go hJ [2] 60 2 rfl ?_
      refine ⟨fun c => absurd c (nI_ge (a := v) (b := 4) (by omega) (by decide)), fun _ => ⟨iv, fun d => ?_, fun d => ⟨rfl, ?_, rfl⟩⟩⟩
      · have d : ¬ z.2.1 17 (nI v).toNatClampNeg = (1 : Int32) <<< (nI k &&& 31) := d
        rw [hz, bit_shl (by omega), nn_eq (ms16 _) (p16 hk)] at d
        have := ih (v + 1) (by omega) (by rw [e, anf_f (show only M k v = false from ne_b d)])
        rw [← e1] at this
        exact this
      · have d : z.2.1 17 (nI v).toNatClampNeg = (1 : Int32) <<< (nI k &&& 31) := Decidable.not_not.mp d
        rw [hz, bit_shl (by omega), nn_eq (ms16 _) (p16 hk)] at d
        rw [e, anf_t (show only M k v = true from eq_b d)]; rfl
  exact ri_run_ok hJ [2] 60 0 0 0 _ _ _ (loop 4 0 rfl rfl)
def dcn (f : Nat → Bool) : Nat → Nat
  | 0 => 0
  | n + 1 => dcn f n + (if f n = true then 1 else 0)
theorem dcn_le (f : Nat → Bool) : ∀ n, dcn f n ≤ n
  | 0 => Nat.le_refl _
  | n + 1 => by
    have := dcn_le f n
    unfold dcn
    split <;> omega
theorem e2_canDouble (l : Launch) (z : st_T) {M : Nat → Nat → Bool} (hM : MM z M) {k : Nat} (hk : k < 4) : ri_Ev l y2_canDouble w2_canDouble r2_canDouble 0 0 [.ref 30, .int (nI k)] (st_h z) (ri_is (zb (decide (2 ≤ dcn (fun v => M v k) 4))) (st_h z)) := by
  refine ri_ev (t2_canDouble l _) rfl rfl rfl (Nat.le_of_ble_eq_true rfl) rfl (z2_canDouble l _) (fun J hJ => ?_)
  have loop : ∀ n v, n + v = 4 → J 4 0 0 [some (.ref 30), some (.int (nI k)), some (.int (nI (dcn (fun v => M v k) v))), some (.int (nI v))] [] (st_h z) := by
    intro n
    induction n with
    | zero =>
      intro v hv
      have hv4 : v = 4 := by omega
      subst hv4
      have hl := dcn_le (fun v => M v k) 4
      refine ri_go hJ [4] 60 4 rfl ?_
      refine ⟨fun _ => ⟨fun d => ⟨rfl, ?_, rfl⟩, fun d => ⟨rfl, ?_, rfl⟩⟩, fun c => absurd (by decide) c⟩
      · have d : nI (dcn (fun v => M v k) 4) < nI 2 := d
        rw [nn_lt (by omega) (by decide)] at d
        rw [decide_eq_false (by omega)]; rfl
      · have d : ¬ nI (dcn (fun v => M v k) 4) < nI 2 := d
        rw [nn_lt (by omega) (by decide)] at d
        rw [decide_eq_true (by omega)]; rfl
    | succ n ih =>
      intro v hv
      have e1 := nI_1 v
      have iv : vp_in (nI v) 4 := vp_in_nI (by omega) (by decide)
      have hz : z.2.1 17 (nI v).toNatClampNeg = nI (msk (M v) 4) := by rw [cl31 (by omega)]; exact hM v (by omega)
      refine ri_go hJ [4] 60 4 rfl ?_
      refine ⟨fun c => absurd c (nI_ge (a := v) (b := 4) (by omega) (by decide)), fun _ => ⟨iv, ?_⟩⟩
      have := ih (v + 1) (by omega)
      rw [show nI (dcn (fun v => M v k) (v + 1)) = nI (dcn (fun v => M v k) v) + ((z.2.1 17 (nI v).toNatClampNeg >>> (nI k &&& 31)) &&& 1) by
        rw [hz, msk_shr (M v) (by decide) hk]
        show nI (dcn (fun v => M v k) v + (if M v k = true then 1 else 0)) = _
        cases M v k
        · exact (nI_add _ 0).symm
        · exact (nI_add _ 1).symm, ← e1] at this
      exact this
  exact ri_run_ok hJ [4] 60 0 0 0 _ _ _ (loop 4 0 rfl)
def wd (v : Nat) : Nat := [12, 12, 19].getD v 0
def k3 (lo hi : Nat → Nat) (v : Nat) : Bool := decide (lo v < hi (v + 1)) || decide (lo (v + 1) + wd v < hi v)
theorem wd_le (v : Nat) : wd v ≤ 19 := by
  unfold wd
  match v with
  | 0 => decide
  | 1 => decide
  | 2 => decide
  | n + 3 => exact Nat.zero_le _
theorem e2_someBreak3 (l : Launch) (z : st_T) {lo hi : Nat → Nat} (hl : ∀ v, v < 4 → z.2.1 15 v = nI (lo v) ∧ z.2.1 16 v = nI (hi v) ∧ lo v < 100 ∧ hi v < 100) : ri_Ev l y2_someBreak3 w2_someBreak3 r2_someBreak3 0 0 [.ref 30] (st_h z) (ri_is (zb (anf (k3 lo hi) 3 0)) (st_h z)) := by
  refine ri_ev (t2_someBreak3 l _) rfl rfl rfl (Nat.le_of_ble_eq_true rfl) rfl (z2_someBreak3 l _) (fun J hJ => ?_)
  have loop : ∀ n v, n + v = 3 → anf (k3 lo hi) 3 0 = anf (k3 lo hi) n v → J 2 0 0 [some (.ref 30), some (.int (nI v))] [] (st_h z) := by
    intro n
    induction n with
    | zero =>
      intro v hv e
      have hv3 : v = 3 := by omega
      subst hv3
      refine ri_go hJ [2] 60 2 rfl ?_
      exact ⟨fun _ => ⟨rfl, by rw [e]; rfl, rfl⟩, fun c => absurd (by decide) c⟩
    | succ n ih =>
      intro v hv e
      have e1 := nI_1 v
      obtain ⟨a1, a2, a3, a4⟩ := hl v (by omega)
      obtain ⟨b1, b2, b3, b4⟩ := hl (v + 1) (by omega)
      have iv : vp_in (nI v) 4 := vp_in_nI (by omega) (by decide)
      have iv3 : vp_in (nI v) 3 := vp_in_nI (by omega) (by decide)
      have iw : vp_in (nI v + 1) 4 := by rw [e1]; exact vp_in_nI (by omega) (by decide)
      have cv : (nI v).toNatClampNeg = v := cl31 (by omega)
      have cw : (nI v + 1).toNatClampNeg = v + 1 := by rw [e1]; exact cl31 (by omega)
      have ew := wid_st v (by omega)
      have ew2 : ([12, 12, 19].getD v 0) = wd v := rfl
      rw [ew2] at ew
      have hw := wd_le v
      have k31 : k3 lo hi v = true → J 31 0 0 [some (.ref 30), some (.int (nI v))] [] (st_h z) := by
        intro h
        refine ri_go hJ [] 60 31 rfl ?_
        exact ⟨rfl, by rw [e, anf_t h]; rfl, rfl⟩
      refine ri_go hJ [2, 31] 60 2 rfl ?_
      refine ⟨fun c => absurd c (nI_ge (a := v) (b := 3) (by omega) (by decide)), fun _ => ⟨iw, iv, fun d => k31 ?_, fun d => ⟨iv, iw, iv3, fun g => ?_, fun g => k31 ?_⟩⟩⟩
      · have d : z.2.1 15 (nI v).toNatClampNeg < z.2.1 16 (nI v + 1).toNatClampNeg := d
        rw [cv, cw, a1, b2, nn_lt (by omega) (by omega)] at d
        unfold k3; rw [decide_eq_true d]; rfl
      · have d : ¬ z.2.1 15 (nI v).toNatClampNeg < z.2.1 16 (nI v + 1).toNatClampNeg := d
        have g : z.2.1 16 (nI v).toNatClampNeg - z.2.1 15 (nI v + 1).toNatClampNeg ≤ st_WIDEST_BELOW.getD (nI v).toNatClampNeg 0 := g
        rw [cv, cw, a1, b2, nn_lt (by omega) (by omega)] at d
        rw [ew, cv, cw, a2, b1, sub_le (by omega) (by omega), nI_toInt (by omega)] at g
        have := ih (v + 1) (by omega) (by rw [e, anf_f (show k3 lo hi v = false by unfold k3; rw [decide_eq_false d, decide_eq_false (by omega)]; rfl)])
        rw [← e1] at this
        exact this
      · have g : ¬ z.2.1 16 (nI v).toNatClampNeg - z.2.1 15 (nI v + 1).toNatClampNeg ≤ st_WIDEST_BELOW.getD (nI v).toNatClampNeg 0 := g
        rw [ew, cv, cw, a2, b1, sub_le (by omega) (by omega), nI_toInt (by omega)] at g
        unfold k3; rw [decide_eq_true (show lo (v + 1) + wd v < hi v by omega), Bool.or_true]
  exact ri_run_ok hJ [2] 60 0 0 0 _ _ _ (loop 3 0 rfl rfl)
def k4 (T : tT) (M : Nat → Nat → Bool) (c : Nat) : Bool := !(anf (only M 0) 4 0) || (!(anf (only M 1) 4 0) || (!(tmem T c 3 == 99) && !(anf (only M 3) 4 0)))
theorem e2_someBreak4 (l : Launch) (z : st_T) (T : tT) (hR : RH z T) {M : Nat → Nat → Bool} (hM : MM z M) {c : Nat} (hc : c < 13) : ri_Ev l y2_someBreak4 w2_someBreak4 r2_someBreak4 0 0 [.ref 30, .int (nI c)] (st_h z) (ri_is (zb (k4 T M c)) (st_h z)) := by
  refine ri_ev (t2_someBreak4 l _) rfl rfl rfl (Nat.le_of_ble_eq_true rfl) rfl (z2_someBreak4 l _) (fun J hJ => ?_)
  have k19 : k4 T M c = true → J 19 0 0 [some (.ref 30), some (.int (nI c))] [] (st_h z) := by
    intro h
    refine ri_go hJ [] 60 19 rfl ?_
    exact ⟨rfl, by rw [h]; rfl, rfl⟩
  have k21 : k4 T M c = false → J 21 0 0 [some (.ref 30), some (.int (nI c))] [] (st_h z) := by
    intro h
    refine ri_go hJ [] 60 21 rfl ?_
    exact ⟨rfl, by rw [h]; rfl, rfl⟩
  refine ri_run_ok hJ [19, 21] 60 0 0 0 _ _ _ ?_
  refine ⟨_, e2_canMiss l z hM (k := 0) (by decide), ?_⟩
  rintro r h' ⟨rfl, rfl⟩
  refine ⟨fun a => k19 ?_, fun a => ⟨_, e2_canMiss l z hM (k := 1) (by decide), ?_⟩⟩
  · unfold k4; rw [zb_1.mp a]; rfl
  rintro r h' ⟨rfl, rfl⟩
  have a := zb_0.mp (Decidable.not_not.mp a)
  refine ⟨fun b => k19 ?_, fun b => ⟨_, e1_memberClass l z T hR hc (k := 3) (by decide), ?_⟩⟩
  · unfold k4; rw [zb_1.mp b]; simp
  rintro r h' ⟨rfl, rfl⟩
  have b := zb_0.mp (Decidable.not_not.mp b)
  refine ⟨fun d => k21 ?_, fun d => ⟨_, e2_canMiss l z hM (k := 3) (by decide), ?_⟩⟩
  · have d : n9 (tmem T c 3) = -2 := d
    rw [n9_none (tmem_lt T c 3)] at d
    unfold k4; rw [a, b, d]; rfl
  rintro r h' ⟨rfl, rfl⟩
  have d : ¬ n9 (tmem T c 3) = -2 := d
  rw [n9_none (tmem_lt T c 3)] at d
  refine ⟨fun g => k21 ?_, fun g => k19 ?_⟩
  · unfold k4; rw [a, b, zb_0.mp g]; simp
  · unfold k4; rw [zb_1.mp g, ne_b d]; simp
def k5 (T : tT) (M : Nat → Nat → Bool) (c : Nat) : Bool := decide (2 ≤ dcn (fun v => M v 3) 4) || (gl T c && (!(tmof T c (ldc T) == 4) && decide (2 ≤ dcn (fun v => M v (tmof T c (ldc T))) 4)))
theorem e2_someBreak5 (l : Launch) (z : st_T) (T : tT) (hW : TW T) (hR : RH z T) {M : Nat → Nat → Bool} (hM : MM z M) {c : Nat} (hc : c < 13) : ri_Ev l y2_someBreak5 w2_someBreak5 r2_someBreak5 0 0 [.ref 30, .int (nI c)] (st_h z) (ri_is (zb (k5 T M c)) (st_h z)) := by
  refine ri_ev (t2_someBreak5 l _) rfl rfl rfl (Nat.le_of_ble_eq_true rfl) rfl (z2_someBreak5 l _) (fun J hJ => ?_)
  have k27 : k5 T M c = false → ∀ o, J 27 0 0 [some (.ref 30), some (.int (nI c)), o] [] (st_h z) := by
    intro h o
    refine ri_go hJ [] 60 27 rfl ?_
    exact ⟨rfl, by rw [h]; rfl, rfl⟩
  have hl12 : ldc T % 12 = ldc T := Nat.mod_mod _ _
  have htl := tmof_le T c (ldc T)
  refine ri_run_ok hJ [27] 60 0 0 0 _ _ _ ?_
  refine ⟨_, e2_canDouble l z hM (k := 3) (by decide), ?_⟩
  rintro r h' ⟨rfl, rfl⟩
  refine ⟨fun a => ?_, fun a => ⟨rfl, ?_, rfl⟩⟩
  · have em := e2_memberAt l z T hR (p := ldc T) hc
    rw [hl12, show nI (ldc T) = z.1 9 2 from hR.2.2.1.symm] at em
    refine ⟨_, em, ?_⟩
    rintro r h' ⟨rfl, rfl⟩
    refine ⟨_, e1_guardsLeading l z T hW hR hc, ?_⟩
    rintro r h' ⟨rfl, rfl⟩
    have a := zb_0.mp a
    refine ⟨fun b => k27 ?_ _, fun b => ⟨fun d => k27 ?_ _, fun d => ?_⟩⟩
    · unfold k5; rw [a, zb_0.mp b]; rfl
    · have d : n4 (tmof T c (ldc T)) = -2 := d
      rw [n4_none htl] at d
      unfold k5; rw [a, d]; simp
    · have d : ¬ n4 (tmof T c (ldc T)) = -2 := d
      rw [n4_none htl] at d
      rw [n4_k d]
      refine ⟨_, e2_canDouble l z hM (k := tmof T c (ldc T)) (by omega), ?_⟩
      rintro r h' ⟨rfl, rfl⟩
      refine ⟨fun g => k27 ?_ _, fun g => ⟨rfl, ?_, rfl⟩⟩
      · unfold k5; rw [a, zb_0.mp g]; simp
      · unfold k5; rw [zb_1.mp g, zb_1.mp b, ne_b d, Bool.true_and]; simp [zb]
  · unfold k5; rw [zb_1.mp a]; rfl
def frm3 (c : Nat) : Bool := c == 0 || (c == 4 || c == 5)
theorem fm_bit : ∀ c, c < 13 → (((49 : Int32) >>> (nI c &&& 31)) &&& 1 = 0 ↔ frm3 c = false) := by decide +kernel
def k6 (T : tT) (M : Nat → Nat → Bool) (i c : Nat) : Bool := (T 3 i == 1 && !(frm3 c)) || (lastP T i && (!(c == 0) || !(only M 0 3)))
theorem e2_someBreak6 (l : Launch) (z : st_T) (T : tT) (hW : TW T) (hS : RS z T) {M : Nat → Nat → Bool} (hM : MM z M) {i c : Nat} (hi : i < 16) (hc : c < 13) : ri_Ev l y2_someBreak6 w2_someBreak6 r2_someBreak6 0 0 [.ref 30, .int (nI i), .int (nI c)] (st_h z) (ri_is (zb (k6 T M i c)) (st_h z)) := by
  refine ri_ev (t2_someBreak6 l _) rfl rfl rfl (Nat.le_of_ble_eq_true rfl) rfl (z2_someBreak6 l _) (fun J hJ => ?_)
  have hf := (hW.2.2.2.2.1 i hi).2.2
  have e : z.2.1 5 (nI i).toNatClampNeg = nI (T 3 i) := by rw [cl31 (by omega)]; exact (hS.2.1 i hi).2.2
  have hM3 : z.2.1 17 3 = nI (msk (M 3) 4) := hM 3 (by decide)
  have k14 : (T 3 i == 1 && !(frm3 c)) = false → J 14 0 0 [some (.ref 30), some (.int (nI i)), some (.int (nI c))] [] (st_h z) := by
    intro h
    have k27 : k6 T M i c = true → J 27 0 0 [some (.ref 30), some (.int (nI i)), some (.int (nI c))] [] (st_h z) := by
      intro h
      refine ri_go hJ [] 60 27 rfl ?_
      exact ⟨rfl, by rw [h]; rfl, rfl⟩
    have k29 : k6 T M i c = false → J 29 0 0 [some (.ref 30), some (.int (nI i)), some (.int (nI c))] [] (st_h z) := by
      intro h
      refine ri_go hJ [] 60 29 rfl ?_
      exact ⟨rfl, by rw [h]; rfl, rfl⟩
    refine ri_go hJ [27, 29] 60 14 rfl ?_
    refine ⟨_, e0_isLastN l z T hW hS hi, ?_⟩
    rintro r h' ⟨rfl, rfl⟩
    refine ⟨fun a => k29 ?_, fun a => ⟨fun b => k27 ?_, fun b => ⟨vp_in_nI (n := 3) (N := 4) (by decide) (by decide), fun d => k29 ?_, fun d => k27 ?_⟩⟩⟩
    · unfold k6; rw [h, zb_0.mp a]; rfl
    · have b : ¬ nI c = 0 := b
      rw [nk_eq (k := 0) (b := 0) rfl (by omega) (by decide)] at b
      unfold k6; rw [zb_1.mp a, ne_b b]; simp
    · have b : nI c = 0 := Decidable.not_not.mp b
      rw [nk_eq (k := 0) (b := 0) rfl (by omega) (by decide)] at b
      have d : z.2.1 17 3 = 1 := d
      rw [hM3, nk_eq (k := 1) (b := 1) rfl (ms16 _) (by decide)] at d
      unfold k6; rw [h, eq_b b, show only M 0 3 = true from eq_b d]; simp
    · have d : ¬ z.2.1 17 3 = 1 := d
      rw [hM3, nk_eq (k := 1) (b := 1) rfl (ms16 _) (by decide)] at d
      unfold k6; rw [zb_1.mp a, show only M 0 3 = false from ne_b d]; simp
  refine ri_run_ok hJ [14] 60 0 0 0 _ _ _ ?_
  refine ⟨vp_in_nI hi (by decide), fun a => k14 ?_, fun a => ⟨fun b => k14 ?_, fun b => ⟨rfl, ?_, rfl⟩⟩⟩
  · have a : z.2.1 5 (nI i).toNatClampNeg = 0 := a
    rw [e, nk_eq (k := 0) (b := 0) rfl (by omega) (by decide)] at a
    rw [a]; rfl
  · have b : ¬ ((49 : Int32) >>> (nI c &&& 31)) &&& 1 = 0 := b
    rw [fm_bit c hc] at b
    rw [Bool.not_eq_false] at b
    rw [b]; simp
  · have a : ¬ z.2.1 5 (nI i).toNatClampNeg = 0 := a
    have b : ((49 : Int32) >>> (nI c &&& 31)) &&& 1 = 0 := Decidable.not_not.mp b
    rw [e, nk_eq (k := 0) (b := 0) rfl (by omega) (by decide)] at a
    rw [fm_bit c hc] at b
    unfold k6; rw [b, show T 3 i = 1 by omega]; rfl
