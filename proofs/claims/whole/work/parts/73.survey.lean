/-! StateRules: what each voice can have -/
def n4 (k : Nat) : Int32 := if k = 4 then -2 else nI k
theorem tmof_le (T : tT) (c p : Nat) : tmof T c p ≤ 4 := by
  unfold tmof
  repeat' split
  all_goals omega
theorem n4_none {k : Nat} (h : k ≤ 4) : (n4 k = -2) = (k = 4) := by
  unfold n4
  by_cases hk : k = 4
  · rw [if_pos hk]; exact propext ⟨fun _ => hk, fun _ => rfl⟩
  · rw [if_neg hk]; exact propext ⟨fun q => absurd q (nI_m2 (by omega)), fun q => absurd q hk⟩
theorem n4_k {k : Nat} (h : ¬ k = 4) : n4 k = nI k := if_neg h
theorem e2_memberAt (l : Launch) (z : st_T) (T : tT) (hR : RH z T) {c p : Nat} (hc : c < 13) : ri_Ev l y2_memberAt w2_memberAt r2_memberAt 0 0 [.ref 30, .int (nI c), .int (nI (p % 12))] (st_h z) (ri_is (n4 (tmof T c p)) (st_h z)) := by
  refine ri_ev (t2_memberAt l _) rfl rfl rfl (Nat.le_of_ble_eq_true rfl) rfl (z2_memberAt l _) (fun J hJ => ?_)
  have rx := Nat.mod_lt p (show 0 < 12 by decide)
  have loop : ∀ n k, n + k = 4 → tmof T c p = mofF T c p n k → J 2 0 0 [some (.ref 30), some (.int (nI c)), some (.int (nI (p % 12))), some (.int (nI k))] [] (st_h z) := by
    intro n
    induction n with
    | zero =>
      intro k hk e
      have hk4 : k = 4 := by omega
      subst hk4
      refine ri_go hJ [2] 60 2 rfl ?_
      exact ⟨fun _ => ⟨by rw [e]; rfl, rfl⟩, fun c => absurd (by decide) c⟩
    | succ n ih =>
      intro k hk e
      have e1 := nI_1 k
      refine ri_go hJ [2] 60 2 rfl ?_
      refine ⟨fun c => absurd c (nI_ge (a := k) (b := 4) (by omega) (by decide)), fun _ => ⟨_, e1_memberClass l z T hR hc (k := k) (by omega), ?_⟩⟩
      rintro r h' ⟨rfl, rfl⟩
      refine ⟨fun d => ?_, fun d => ⟨?_, rfl⟩⟩
      · have d : ¬ n9 (tmem T c k) = nI (p % 12) := d
        rw [n9_eq (tmem_lt T _ _) rx] at d
        have := ih (k + 1) (by omega) (by rw [e]; show (if _ then _ else _) = _; rw [if_neg d])
        rw [← e1] at this
        exact this
      · have d : n9 (tmem T c k) = nI (p % 12) := Decidable.not_not.mp d
        rw [n9_eq (tmem_lt T _ _) rx] at d
        rw [e, show mofF T c p (n + 1) k = k from if_pos d, n4_k (by omega)]
  exact ri_run_ok hJ [2] 60 0 0 0 _ _ _ (loop 4 0 rfl rfl)
def snd (T : tT) (i v k : Nat) : Bool := !(v == 3) || (T 2 i == 0 || T 2 i == k + 1)
theorem e2_maySound (l : Launch) (z : st_T) (T : tT) (hW : TW T) (hS : RS z T) {i v k : Nat} (hi : i < 16) (hv : v < 4) (hk : k < 4) : ri_Ev l y2_maySound w2_maySound r2_maySound 0 0 [.ref 30, .int (nI i), .int (nI v), .int (nI k)] (st_h z) (ri_is (zb (snd T i v k)) (st_h z)) := by
  refine ri_ev (t2_maySound l _) rfl rfl rfl (Nat.le_of_ble_eq_true rfl) rfl (z2_maySound l _) (fun J hJ => ?_)
  have hf := (hW.2.2.2.2.1 i hi).2.1
  have e : z.2.1 4 (nI i).toNatClampNeg = nD (T 2 i) := by rw [cl31 (by omega)]; exact (hS.2.1 i hi).2.1
  have hin : vp_in (nI i) 16 := vp_in_nI hi (by decide)
  have k17 : snd T i v k = true → J 17 0 0 [some (.ref 30), some (.int (nI i)), some (.int (nI v)), some (.int (nI k))] [] (st_h z) := by
    intro h
    refine ri_go hJ [] 60 17 rfl ?_
    exact ⟨rfl, by rw [h]; rfl, rfl⟩
  refine ri_run_ok hJ [17] 60 0 0 0 _ _ _ ?_
  refine ⟨fun a => k17 ?_, fun a => ⟨hin, fun b => k17 ?_, fun b => ⟨hin, fun d => ⟨rfl, ?_, rfl⟩, fun d => k17 ?_⟩⟩⟩
  · have a : ¬ nI v = 3 := a
    rw [nk_eq (k := 3) (b := 3) rfl (by omega) (by decide)] at a
    unfold snd; rw [ne_b a]; rfl
  · have b : z.2.1 4 (nI i).toNatClampNeg = -2 := b
    rw [e, nD_none (by omega)] at b
    unfold snd; rw [b]; simp
  · have a : nI v = 3 := Decidable.not_not.mp a
    have b : ¬ z.2.1 4 (nI i).toNatClampNeg = -2 := b
    have d : ¬ z.2.1 4 (nI i).toNatClampNeg = nI k := d
    rw [nk_eq (k := 3) (b := 3) rfl (by omega) (by decide)] at a
    rw [e, nD_none (by omega)] at b
    rw [e, show nD (T 2 i) = nI (T 2 i - 1) from if_neg b, nn_eq (by omega) (by omega)] at d
    unfold snd
    rw [eq_b a, ne_b b, show (T 2 i == k + 1) = false from ne_b (by omega)]; rfl
  · have b : ¬ z.2.1 4 (nI i).toNatClampNeg = -2 := b
    have d : z.2.1 4 (nI i).toNatClampNeg = nI k := Decidable.not_not.mp d
    rw [e, nD_none (by omega)] at b
    rw [e, show nD (T 2 i) = nI (T 2 i - 1) from if_neg b, nn_eq (by omega) (by omega)] at d
    unfold snd
    rw [show (T 2 i == k + 1) = true from eq_b (by omega)]; simp
/-- rules 1 and 2 let the voice have the pitch -/
def vpA (T : tT) (i c v p : Nat) : Bool := decide (lowN T i v ≤ p) && (decide (p ≤ highN T i v) && (decide (tmof T c p < 4) && snd T i v (tmof T c p)))
def SVI (z : st_T) (A : Nat → Bool) (t : Nat → Nat) (v P : Nat) : Prop := ∃ M : Nat → Bool, z.2.1 17 v = nI (msk M 4) ∧ (∀ k, k < 4 → (M k = true ↔ ∃ p, p < P ∧ A p = true ∧ t p = k)) ∧ ((∃ p, p < P ∧ A p = true) → ∃ lo hi, z.2.1 15 v = nI lo ∧ z.2.1 16 v = nI hi ∧ (lo < P ∧ A lo = true) ∧ (hi < P ∧ A hi = true) ∧ ∀ p, p < P → A p = true → lo ≤ p ∧ p ≤ hi)
theorem SVI_no {z : st_T} {A : Nat → Bool} {t : Nat → Nat} {v P : Nat} (h : SVI z A t v P) (hA : A P = false) : SVI z A t v (P + 1) := by
  obtain ⟨M, h1, h2, h3⟩ := h
  have hlt : ∀ p, p < P + 1 → A p = true → p < P := fun p hp ha => by
    by_cases q : p = P
    · rw [q, hA] at ha; cases ha
    · omega
  refine ⟨M, h1, fun k hk => ?_, fun ⟨p, hp, ha⟩ => ?_⟩
  · rw [h2 k hk]
    exact ⟨fun ⟨p, hp, ha⟩ => ⟨p, by omega, ha⟩, fun ⟨p, hp, ha⟩ => ⟨p, hlt p hp ha.1, ha⟩⟩
  · obtain ⟨lo, hi, a, b, c, d, e⟩ := h3 ⟨p, hlt p hp ha, ha⟩
    exact ⟨lo, hi, a, b, ⟨by omega, c.2⟩, ⟨by omega, d.2⟩, fun q hq hq2 => e q (hlt q hq hq2) hq2⟩
theorem SVI_eq {z z' : st_T} {A : Nat → Bool} {t : Nat → Nat} {v P : Nat} (h : SVI z A t v P) (h5 : z'.2.1 15 v = z.2.1 15 v) (h6 : z'.2.1 16 v = z.2.1 16 v) (h7 : z'.2.1 17 v = z.2.1 17 v) : SVI z' A t v P := by
  unfold SVI
  rw [h5, h6, h7]
  exact h
theorem msk_or1 (M : Nat → Bool) {n k : Nat} (hk : k < n) : nI (msk M n) ||| nI (2 ^ k) = nI (msk (fun j => M j || j == k) n) := by
  rw [nx_or]
  congr 1
  apply Nat.eq_of_testBit_eq
  intro i
  rw [Nat.testBit_or, msk_bit, msk_bit, Nat.testBit_two_pow]
  by_cases h : i = k
  · subst h; simp [hk]
  · rw [ne_b h, decide_eq_false (Ne.symm h)]; simp
theorem SVI_emp {z : st_T} {A : Nat → Bool} {t : Nat → Nat} {v P : Nat} (h : SVI z A t v P) (hA : ∀ p, A p = true → t p < 4) : z.2.1 17 v = 0 ↔ ¬ ∃ p, p < P ∧ A p = true := by
  obtain ⟨M, h1, h2, h3⟩ := h
  have hl : msk M 4 < 2 ^ 31 := Nat.lt_trans (msk_lt M 4) (by decide)
  rw [h1, nk_eq (k := 0) (b := 0) rfl hl (by decide)]
  constructor
  · rintro e ⟨p, hp, ha⟩
    have := msk_z e (t p) (hA p ha)
    rw [(h2 (t p) (hA p ha)).mpr ⟨p, hp, ha, rfl⟩] at this
    cases this
  · intro hn
    apply Nat.eq_of_testBit_eq
    intro j
    rw [msk_bit, Nat.zero_testBit]
    by_cases hj : j < 4
    · cases hM : M j with
      | false => simp
      | true =>
        obtain ⟨p, hp, ha, _⟩ := (h2 j hj).mp hM
        exact absurd ⟨p, hp, ha⟩ hn
    · simp [hj]
theorem SVI_step {z z' : st_T} {A : Nat → Bool} {t : Nat → Nat} {v P : Nat} (h : SVI z A t v P) (hA : A P = true) (ht : t P < 4) (h5 : (∃ p, p < P ∧ A p = true) → z'.2.1 15 v = z.2.1 15 v) (h5' : (¬ ∃ p, p < P ∧ A p = true) → z'.2.1 15 v = nI P) (h6 : z'.2.1 16 v = nI P) (h7 : z'.2.1 17 v = z.2.1 17 v ||| nI (2 ^ t P)) : SVI z' A t v (P + 1) := by
  obtain ⟨M, h1, h2, h3⟩ := h
  refine ⟨fun j => M j || j == t P, by rw [h7, h1, msk_or1 M ht], fun k hk => ?_, fun _ => ?_⟩
  · simp only [Bool.or_eq_true, beq_iff_eq]
    rw [h2 k hk]
    constructor
    · rintro (⟨p, hp, ha⟩ | e)
      · exact ⟨p, by omega, ha⟩
      · exact ⟨P, by omega, hA, e.symm⟩
    · rintro ⟨p, hp, ha, hk2⟩
      by_cases q : p = P
      · right; rw [← hk2, q]
      · left; exact ⟨p, by omega, ha, hk2⟩
  · by_cases hs : ∃ p, p < P ∧ A p = true
    · obtain ⟨lo, hi, a, b, c, d, e⟩ := h3 hs
      refine ⟨lo, P, by rw [h5 hs, a], h6, ⟨by omega, c.2⟩, ⟨by omega, hA⟩, fun p hp ha => ?_⟩
      by_cases q : p = P
      · subst q; exact ⟨Nat.le_of_lt c.1, Nat.le_refl _⟩
      · exact ⟨(e p (by omega) ha).1, by omega⟩
    · refine ⟨P, P, h5' hs, h6, ⟨by omega, hA⟩, ⟨by omega, hA⟩, fun p hp ha => ?_⟩
      by_cases q : p = P
      · subst q; exact ⟨Nat.le_refl _, Nat.le_refl _⟩
      · exact absurd ⟨p, by omega, ha⟩ hs
def SV (z : st_T) (T : tT) (i c v : Nat) : Prop := SVI z (vpA T i c v) (tmof T c) v 100
theorem vpA_all {T : tT} {i c v p : Nat} (h : vpA T i c v p = true) : lowN T i v ≤ p ∧ p ≤ highN T i v ∧ tmof T c p < 4 ∧ snd T i v (tmof T c p) = true := by
  unfold vpA at h
  simp only [Bool.and_eq_true, decide_eq_true_eq] at h
  exact h
theorem vpA_no {T : tT} {i c v p : Nat} (h : vpA T i c v p = true → False) : vpA T i c v p = false := by
  cases e : vpA T i c v p with
  | false => rfl
  | true => exact absurd e h
/-- elsewhere the scratch stays -/
def SO (z z' : st_T) (v : Nat) : Prop := ∀ u, u ≠ v → z'.2.1 15 u = z.2.1 15 u ∧ z'.2.1 16 u = z.2.1 16 u ∧ z'.2.1 17 u = z.2.1 17 u
theorem SO_tr {z z1 z2 : st_T} {v : Nat} (a : SO z z1 v) (b : SO z1 z2 v) : SO z z2 v := fun u hu => ⟨by rw [(b u hu).1, (a u hu).1], by rw [(b u hu).2.1, (a u hu).2.1], by rw [(b u hu).2.2, (a u hu).2.2]⟩
theorem SO_5 (z : st_T) (v : Nat) (x : Int32) : SO z (fa z 15 (upd (z.2.1 15) v x)) v := fun u hu => ⟨by rw [fa_self, pk_un hu], by rw [fa_ne _ _ (by decide)], by rw [fa_ne _ _ (by decide)]⟩
theorem SO_6 (z : st_T) (v : Nat) (x : Int32) : SO z (fa z 16 (upd (z.2.1 16) v x)) v := fun u hu => ⟨by rw [fa_ne _ _ (by decide)], by rw [fa_self, pk_un hu], by rw [fa_ne _ _ (by decide)]⟩
theorem SO_7 (z : st_T) (v : Nat) (x : Int32) : SO z (fa z 17 (upd (z.2.1 17) v x)) v := fun u hu => ⟨by rw [fa_ne _ _ (by decide)], by rw [fa_ne _ _ (by decide)], by rw [fa_self, pk_un hu]⟩
def md7 : List Nat := [15, 16, 17]
set_option maxHeartbeats 1000000 in
theorem e2_surveyVoice (l : Launch) (z : st_T) (T : tT) (hW : TW T) (hS : RS z T) (hR : RH z T) {i c v : Nat} (hi : i < 16) (hc : c < 13) (hv : v < 4) : ri_Ev l y2_surveyVoice w2_surveyVoice r2_surveyVoice 0 0 [.ref 30, .int (nI i), .int (nI c), .int (nI v)] (st_h z) (ri_zx fun z' => SV z' T i c v ∧ SO z z' v ∧ md md7 z z') := by
  refine ri_ev (t2_surveyVoice l _) rfl rfl rfl (Nat.le_of_ble_eq_true rfl) rfl (z2_surveyVoice l _) (fun J hJ => ?_)
  have hlim := lim_lt hW hi hv
  have iv : vp_in (nI v) 4 := vp_in_nI hv (by decide)
  have cv : (nI v).toNatClampNeg = v := cl31 (by omega)
  have loop : ∀ n P, highN T i v + 1 - P = n → lowN T i v ≤ P → P ≤ 100 → ∀ z1, SVI z1 (vpA T i c v) (tmof T c) v P → SO z z1 v → md md7 z z1 → ∀ o, J 17 0 0 [some (.ref 30), some (.int (nI i)), some (.int (nI c)), some (.int (nI v)), some (.int (nI (highN T i v))), some (.int (nI P)), o] [] (st_h z1) := by
    intro n
    induction n with
    | zero =>
      intro P hn hlo h100 z1 hV hO hm o
      have fin : ∀ n Q, Q + n = 100 → highN T i v < Q → SVI z1 (vpA T i c v) (tmof T c) v Q → SV z1 T i c v := by
        intro n
        induction n with
        | zero => intro Q hQ _ h; rw [show Q = 100 by omega] at h; exact h
        | succ n ih => intro Q hQ hh h; exact ih (Q + 1) (by omega) (by omega) (SVI_no h (vpA_no (fun q => by have := (vpA_all q).2.1; omega)))
      refine ri_go hJ [] 60 17 rfl ?_
      exact ⟨fun _ => ⟨rfl, z1, rfl, fin (100 - P) P (by omega) (by omega) hV, hO, hm⟩, fun d => absurd (nI_lt (by omega) (by omega)) d⟩
    | succ n ih =>
      intro P hn hlo h100 z1 hV hO hm o
      have e1 := nI_1 P
      have hS1 := RS_md hS hm (by decide)
      have hR1 := RH_md hR hm (by decide)
      have htl := tmof_le T c P
      have k61 : ∀ z2, SVI z2 (vpA T i c v) (tmof T c) v (P + 1) → SO z z2 v → md md7 z z2 → ∀ o, J 61 0 0 [some (.ref 30), some (.int (nI i)), some (.int (nI c)), some (.int (nI v)), some (.int (nI (highN T i v))), some (.int (nI P)), o] [] (st_h z2) := by
        intro z2 hV2 hO2 hm2 o
        refine ri_go hJ [17] 60 61 rfl ?_
        have := ih (P + 1) (by omega) (by omega) (by omega) z2 hV2 hO2 hm2 o
        rw [← e1] at this
        exact this
      have erem : nI P - nI P / 12 * 12 = nI (P % 12) := rem12 (by omega)
      have k46 : vpA T i c v P = true → ∀ z2, ((∃ p, p < P ∧ vpA T i c v p = true) → z2.2.1 15 v = z1.2.1 15 v) → ((¬ ∃ p, p < P ∧ vpA T i c v p = true) → z2.2.1 15 v = nI P) → z2.2.1 17 v = z1.2.1 17 v → SO z z2 v → md md7 z z2 → J 46 0 0 [some (.ref 30), some (.int (nI i)), some (.int (nI c)), some (.int (nI v)), some (.int (nI (highN T i v))), some (.int (nI P)), some (.int (nI (tmof T c P)))] [] (st_h z2) := by
        intro hA z2 h5 h5' h7 hO2 hm2
        refine ri_go hJ [61] 60 46 rfl ?_
        refine ⟨iv, iv, iv, ?_⟩
        have ht := (vpA_all hA).2.2.1
        have := k61 (fa (fa z2 16 (upd (z2.2.1 16) v (nI P))) 17 (upd ((fa z2 16 (upd (z2.2.1 16) v (nI P))).2.1 17) v ((fa z2 16 (upd (z2.2.1 16) v (nI P))).2.1 17 v ||| ((1 : Int32) <<< (nI (tmof T c P) &&& 31))))) (SVI_step hV hA ht (fun q => ?_) (fun q => ?_) ?_ ?_) (SO_tr hO2 (SO_tr (SO_6 _ _ _) (SO_7 _ _ _))) (md_tr hm2 (md_tr (md_fa (by decide)) (md_fa (by decide)))) (some (.int (nI (tmof T c P))))
        · rw [← cv] at this
          rw [cv] at this ⊢
          exact this
        · rw [fa_ne _ _ (by decide), fa_ne _ _ (by decide)]; exact h5 q
        · rw [fa_ne _ _ (by decide), fa_ne _ _ (by decide)]; exact h5' q
        · rw [fa_ne _ _ (by decide), fa_self, pk_us]
        · rw [fa_self, pk_us, fa_ne _ _ (by decide), bit_shl (by omega), h7]
      refine ri_go hJ [61, 46] 60 17 rfl ?_
      refine ⟨fun d => absurd d (nI_nlt (by omega) (by omega)), fun _ => ⟨by decide, ?_⟩⟩
      have em := e2_memberAt l z1 T hR1 (p := P) hc
      rw [← erem] at em
      refine ⟨_, em, ?_⟩
      rintro r h' ⟨rfl, rfl⟩
      refine ⟨fun d => k61 z1 (SVI_no hV (vpA_no fun q => ?_)) hO hm _, fun d => ?_⟩
      · have d : n4 (tmof T c P) = -2 := d
        rw [n4_none htl] at d
        have := (vpA_all q).2.2.1; omega
      · have d : ¬ n4 (tmof T c P) = -2 := d
        rw [n4_none htl] at d
        rw [show n4 (tmof T c P) = nI (tmof T c P) from n4_k d]
        refine ⟨_, e2_maySound l z1 T hW hS1 hi hv (k := tmof T c P) (by omega), ?_⟩
        rintro r h' ⟨rfl, rfl⟩
        refine ⟨fun g => k61 z1 (SVI_no hV (vpA_no fun q => ?_)) hO hm _, fun g => ⟨iv, fun a => ?_, fun a => ⟨iv, ?_⟩⟩⟩
        · have := (vpA_all q).2.2.2
          rw [zb_0.mp g] at this; cases this
        · have hA : vpA T i c v P = true := by
            unfold vpA
            rw [decide_eq_true hlo, decide_eq_true (show P ≤ highN T i v by omega), decide_eq_true (show tmof T c P < 4 by omega), zb_1.mp g]; rfl
          have a : ¬ z1.2.1 17 (nI v).toNatClampNeg = 0 := a
          rw [cv, SVI_emp hV (fun p q => (vpA_all q).2.2.1)] at a
          exact k46 hA z1 (fun _ => rfl) (fun q => absurd q a) rfl hO hm
        · have hA : vpA T i c v P = true := by
            unfold vpA
            rw [decide_eq_true hlo, decide_eq_true (show P ≤ highN T i v by omega), decide_eq_true (show tmof T c P < 4 by omega), zb_1.mp g]; rfl
          have a : z1.2.1 17 (nI v).toNatClampNeg = 0 := Decidable.not_not.mp a
          rw [cv, SVI_emp hV (fun p q => (vpA_all q).2.2.1)] at a
          have := k46 hA (fa z1 15 (upd (z1.2.1 15) v (nI P))) (fun q => absurd q a) (fun _ => by rw [fa_self, pk_us]) (by rw [fa_ne _ _ (by decide)]) (SO_tr hO (SO_5 _ _ _)) (md_tr hm (md_fa (by decide)))
          rw [show fa z1 15 (upd (z1.2.1 15) v (nI P)) = fa z1 15 (upd (z1.2.1 15) (nI v).toNatClampNeg (nI P)) by rw [cv]] at this
          exact this
  have hm0 : md md7 z (fa z 17 (upd (z.2.1 17) v 0)) := md_fa (by decide)
  have k5 : J 5 0 0 [some (.ref 30), some (.int (nI i)), some (.int (nI c)), some (.int (nI v)), none, none, none] [] (st_h (fa z 17 (upd (z.2.1 17) v 0))) := by
    refine ri_go hJ [17] 60 5 rfl ?_
    refine ⟨_, e0_highAtN l _ T hW (RS_md hS hm0 (by decide)) hi hv, ?_⟩
    rintro r h' ⟨rfl, rfl⟩
    refine ⟨_, e0_lowAtN l _ T hW (RS_md hS hm0 (by decide)) hi hv, ?_⟩
    rintro r h' ⟨rfl, rfl⟩
    refine loop _ _ rfl (Nat.le_refl _) (by omega) _ ⟨fun _ => false, ?_, fun k hk => ⟨fun q => Bool.noConfusion q, fun ⟨p, hp, ha, _⟩ => ?_⟩, fun ⟨p, hp, ha⟩ => ?_⟩ (SO_7 _ _ _) hm0 _
    · rw [fa_self, pk_us]; rfl
    · have := (vpA_all ha).1; omega
    · have := (vpA_all ha).1; omega
  refine ri_run_ok hJ [5] 60 0 0 0 _ _ _ ?_
  refine ⟨iv, ?_⟩
  rw [show fa z 17 (upd (z.2.1 17) v 0) = fa z 17 (upd (z.2.1 17) (nI v).toNatClampNeg 0) by rw [cv]] at k5
  exact k5
