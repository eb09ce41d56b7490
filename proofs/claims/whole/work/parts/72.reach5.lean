/-! Reach: trialJoins, noteToGiveWay -/
def jnP (T : tT) (i x : Nat) : Bool := come T i x && goes T i x
theorem PA_md {z z' : st_T} {T : tT} {i : Nat} {ps : List Nat} (h : PA z T i) (hm : md ps z z') (hd : ∀ p ∈ ps, p ≤ 20 ∨ 71 < p) (hi : T 8 2 ≤ 16) : PA z' T i := by
  intro hl
  obtain ⟨h1, h2, h3⟩ := h hl
  refine ⟨LY_md h1 hm (fun q => ?_) (fun q => ?_), h2, fun s x hx => ?_⟩
  · have := hd _ q; omega
  · have := hd _ q; omega
  · rw [md_F hm (fun q => ?_)]
    · exact h3 s x hx
    · have := hd _ q; omega
theorem sc3_P {i : Nat} : ∀ p ∈ sc3, p ≤ 20 ∨ 25 + 3 * i ≤ p := by
  intro p hp; simp [sc3] at hp; omega
theorem sc3_A : ∀ p ∈ sc3, p ≤ 20 ∨ 71 < p := by decide
theorem e6_trialJoins (l : Launch) (z : st_T) (T : tT) (hW : TW T) (hS : RS z T) (hR : RH z T) {i : Nat} (hi : i < T 8 2) {L : List Nat} (hL : LY z 72 L) (h4 : L.length ≤ 400) (hc : ∀ s x : Nat, L[s]? = some x → CK x) (hP : PB z T i) (hA : PA z T i) : ri_Ev l y6_trialJoins w6_trialJoins r6_trialJoins 0 0 [.ref 87, .int (nI i)] (st_h z) (ri_zi (zb (L.any (jnP T i))) fun z' => md sc3 z z') := by
  refine ri_ev (t6_trialJoins l _) rfl rfl rfl (Nat.le_of_ble_eq_true rfl) rfl (z6_trialJoins l _) (fun J hJ => ?_)
  have hn := hW.1
  have hp : lyP 72 := Or.inl rfl
  have loop : ∀ n s, n + s = L.length → L.any (jnP T i) = (L.drop s).any (jnP T i) → ∀ z1, md sc3 z z1 → J 2 0 0 [some (.ref 87), some (.int (nI i)), some (.int (nI s))] [] (st_h z1) := by
    intro n
    induction n with
    | zero =>
      intro s hs e z1 hm
      have hL1 := LY_sc hL hp hm
      refine ri_go hJ [] 90 2 rfl ?_
      refine ⟨_, e5_keptN l z1 hp hL1 h4, ?_⟩
      rintro r h' ⟨rfl, rfl⟩
      refine ⟨fun _ => ⟨rfl, ?_, z1, rfl, hm⟩, fun c => absurd (nI_le (by omega) (by omega)) c⟩
      rw [e, List.drop_of_length_le (by omega)]; rfl
    | succ n ih =>
      intro s hs e z1 hm
      have e1 := nI_1 s
      have hL1 := LY_sc hL hp hm
      obtain ⟨x, hx⟩ : ∃ x, L[s]? = some x := ⟨_, List.getElem?_eq_getElem (by omega)⟩
      have hok := hc s x hx
      have hcd : ∀ z2, md sc3 z z2 → z2.2.1 73 (nI s).toNatClampNeg = nI x := fun z2 hm2 => by rw [cl31 (by omega)]; exact (LY_sc hL hp hm2).2 s x hx (by omega)
      have hin : vp_in (nI s) 400 := vp_in_nI (by omega) (by decide)
      rw [drop_cons hx, List.any_cons] at e
      have k27 : jnP T i x = false → ∀ z2, md sc3 z z2 → J 27 0 0 [some (.ref 87), some (.int (nI i)), some (.int (nI s))] [] (st_h z2) := by
        intro hf z2 hm2
        refine ri_go hJ [2] 90 27 rfl ?_
        have := ih (s + 1) (by omega) (by rw [e, hf, Bool.false_or]) z2 hm2
        rw [← e1] at this
        exact this
      have k23 : come T i x = true → ∀ z2, md sc3 z z2 → J 23 0 0 [some (.ref 87), some (.int (nI i)), some (.int (nI s))] [.int (nI x), .int (nI i), .ref 87] (st_h z2) := by
        intro hcx z2 hm2
        refine ri_go hJ [27] 90 23 rfl ?_
        refine ⟨_, e6_goesOn l z2 T hW (RS_md hS hm2 sc3_S) (RH_md hR hm2 sc3_H) hi hok (PA_md hA hm2 sc3_A hn.2), ?_⟩
        rintro r h' ⟨rfl, z3, rfl, hm3⟩
        refine ⟨fun c => k27 ?_ _ (md_tr hm2 hm3), fun c => ⟨rfl, ?_, z3, rfl, md_tr hm2 hm3⟩⟩
        · unfold jnP; rw [zb_0.mp c, Bool.and_false]
        · rw [e]; unfold jnP; rw [hcx, zb_1.mp c]; rfl
      have k14 : J 14 0 0 [some (.ref 87), some (.int (nI i)), some (.int (nI s))] [.int (nI x), .int (nI i), .ref 87] (st_h z1) := by
        refine ri_go hJ [27, 23] 90 14 rfl ?_
        refine ⟨_, e6_isEntA l z1 T (RH_md hR hm sc3_H) (by omega) hok (PB_md hP hm (by omega) sc3_P), ?_⟩
        rintro r h' ⟨rfl, z2, rfl, hm2⟩
        refine ⟨fun c => k27 ?_ _ (md_tr hm hm2), fun c => ⟨hin, ?_⟩⟩
        · unfold jnP; rw [zb_0.mp c, Bool.false_and]
        · have := k23 (zb_1.mp c) z2 (md_tr hm hm2)
          rw [← hcd z2 (md_tr hm hm2)] at this
          exact this
      refine ri_go hJ [14] 90 2 rfl ?_
      refine ⟨_, e5_keptN l z1 hp hL1 h4, ?_⟩
      rintro r h' ⟨rfl, rfl⟩
      refine ⟨fun c => absurd c (nI_ge (by omega) (by omega)), fun _ => ⟨hin, ?_⟩⟩
      have := k14
      rw [← hcd z1 hm] at this
      exact this
  exact ri_run_ok hJ [2] 90 0 0 0 _ _ _ (loop L.length 0 (Nat.add_zero _) (by rw [List.drop_zero]) z (md_rf _ _))
/-- one given note taken away -/
def frT (T : tT) (k : Nat) : tT := fun a => if a = 0 then (fun b => if b = k then 0 else T 0 b) else T a
theorem frT_0 (T : tT) (k j : Nat) : frT T k 0 j = if j = k then 0 else T 0 j := rfl
theorem TW_fr {T : tT} (h : TW T) (k : Nat) : TW (frT T k) := by
  obtain ⟨h1, h2, h3, h4, h5, h6, h7, h8, h9⟩ := h
  refine ⟨h1, h2, h3, fun j hj => ?_, h5, h6, h7, h8, fun i a b => ⟨fun v hv => ?_, (h9 i a b).2⟩⟩
  · rw [frT_0]
    by_cases c : j = k
    · rw [if_pos c]; exact Or.inl rfl
    · rw [if_neg c]; exact h4 j hj
  · rw [frT_0]
    by_cases c : 4 * i + v = k
    · rw [if_pos c]
    · rw [if_neg c]; exact (h9 i a b).1 v hv
theorem RH_fr {z : st_T} {T : tT} (h : RH z T) (k : Nat) : RH z (frT T k) := h
theorem RS_fr {z : st_T} {T : tT} (h : RS z T) (k : Nat) : RS (fa z 2 (upd (z.2.1 2) k (-2))) (frT T k) := by
  obtain ⟨h1, h2⟩ := h
  refine ⟨fun j hj => ?_, h2⟩
  rw [fa_self, frT_0]
  by_cases c : j = k
  · rw [c, pk_us, if_pos rfl]; rfl
  · rw [pk_un c, if_neg c]; exact h1 j hj
def gwF (T : tT) : Nat → Nat → Int32
  | 0, _ => -2
  | n + 1, k => if T 0 k = 0 then gwF T n (k + 1) else if 400 < (stL (frT T k) (k / 4)).length then -3 else if (stL (frT T k) (k / 4)).any (jnP T (k / 4)) = true then nI k else gwF T n (k + 1)
def gw (T : tT) : Int32 := gwF T (4 * T 8 2) 0
def mdN : List Nat := [2, 15, 16, 18, 19, 20, 72, 73]
theorem mdN_H : ∀ p ∈ mdN, p < 9 ∨ 13 < p := by decide
theorem mdN_A : ∀ p ∈ mdN, p ≤ 20 ∨ 71 < p := by decide
theorem mdN_P {i : Nat} (hi : i < 16) : ∀ p ∈ mdN, p ≤ 20 ∨ 25 + 3 * i ≤ p := by
  intro p hp; simp [mdN] at hp; omega
theorem nC_ne {n : Nat} (h : ¬ n = 0) : nC n = nI n := if_neg h
set_option maxHeartbeats 1000000 in
theorem e6_noteToGiveWay (l : Launch) (z : st_T) (T : tT) (hW : TW T) (hS : RS z T) (hR : RH z T) (hB : TB z T (T 8 2)) (h4 : FEW T) (hX : ∀ i, i < T 8 2 → MX z T i) : ri_Ev l y6_noteToGiveWay w6_noteToGiveWay r6_noteToGiveWay 0 0 [.ref 87] (st_h z) (ri_zi (gw T) fun z' => RS z' T ∧ md (mdM ++ mdN) z z') := by
  refine ri_ev (t6_noteToGiveWay l _) rfl rfl rfl (Nat.le_of_ble_eq_true rfl) rfl (z6_noteToGiveWay l _) (fun J hJ => ?_)
  have hn := hW.1
  refine ri_run_ok hJ [2] 90 0 0 0 _ _ _ ?_
  refine ⟨_, e6_markGoingOn l z T hW hS hR hB h4 hX, ?_⟩
  rintro r h' ⟨rfl, z0, rfl, h30, hm0⟩
  have hS0 := RS_md hS hm0 mdM_S
  have hR0 := RH_md hR hm0 mdM_H
  have hB0 : TB z0 T (T 8 2) := fun j hj => LY_md (hB j hj) hm0 (mdM_no j (by omega)).1 (mdM_no j (by omega)).2
  have hP0 : ∀ i, i < T 8 2 → PB z0 T i := fun i hi j hj => ⟨hB0 j (by omega), h4 j (by omega), M3_MK (h30 j (by omega))⟩
  have hA0 : ∀ i, PA z0 T i := fun i hl => ⟨hB0 _ hl, h4 _ hl, M3_MG (h30 _ hl)⟩
  have hfin : ∀ z1, md mdN z0 z1 → md (mdM ++ mdN) z z1 := fun z1 hm => md_tr (md_mo hm0 (fun p hp => List.mem_append_left _ hp)) (md_mo hm (fun p hp => List.mem_append_right _ hp))
  have loop : ∀ n k, n + k = 4 * T 8 2 → gw T = gwF T n k → ∀ z1, RS z1 T → md mdN z0 z1 → ∀ o2 o3, J 4 0 0 [some (.ref 87), some (.int (nI k)), o2, o3] [] (st_h z1) := by
    intro n
    induction n with
    | zero =>
      intro k hk e z1 hS1 hm o2 o3
      refine ri_go hJ [] 90 4 rfl ?_
      refine ⟨fun _ => ⟨by rw [e]; rfl, z1, rfl, hS1, hfin z1 hm⟩, fun c => absurd (show z1.1 1 0 * 4 ≤ nI k from ?_) c⟩
      rw [hS1.2.2.2.2.1, show (4 : Int32) = nI 4 from rfl, pk_mul]
      exact nI_le (by omega) (by omega)
    | succ n ih =>
      intro k hk e z1 hS1 hm o2 o3
      have e1 := nI_1 k
      have hk64 : k < 64 := by omega
      have hin : vp_in (nI k) 64 := vp_in_nI hk64 (by decide)
      have hpi : z1.2.1 2 (nI k).toNatClampNeg = nC (T 0 k) := by rw [cl31 (by omega)]; exact hS1.1 k hk64
      have hT0 := hW.2.2.2.1 k hk64
      have hR1 := RH_md hR0 hm mdN_H
      have k56 : gw T = gwF T n (k + 1) → ∀ z2, RS z2 T → md mdN z0 z2 → ∀ a b, J 56 0 0 [some (.ref 87), some (.int (nI k)), a, b] [] (st_h z2) := by
        intro e2 z2 hS2 hm2 a b
        refine ri_go hJ [4] 90 56 rfl ?_
        have := ih (k + 1) (by omega) e2 z2 hS2 hm2 a b
        rw [← e1] at this
        exact this
      have k21 : ¬ T 0 k = 0 → ∀ b, J 21 0 0 [some (.ref 87), some (.int (nI k)), some (.int (z1.2.1 2 (nI k).toNatClampNeg)), b] [] (st_h z1) := by
        intro h0 b
        have e' : gw T = if 400 < (stL (frT T k) (k / 4)).length then -3 else if (stL (frT T k) (k / 4)).any (jnP T (k / 4)) = true then nI k else gwF T n (k + 1) := by
          rw [e, gwF, if_neg h0]
        have edv : nI k / 4 = nI (k / 4) := pk_div (by omega) (by decide) (by decide)
        have hi : k / 4 < T 8 2 := by omega
        have ez : z1.2.1 2 k = nI (T 0 k) := by rw [hS1.1 k hk64, nC_ne h0]
        have k36 : J 36 0 0 [some (.ref 87), some (.int (nI k)), some (.int (z1.2.1 2 (nI k).toNatClampNeg)), some (.int (nI (k / 4)))] [.int (nI (k / 4)), .ref 88, .ref 30] (st_h (fa z1 2 (upd (z1.2.1 2) (nI k).toNatClampNeg (-2)))) := by
          rw [cl31 (by omega)]
          refine ri_go hJ [37] 90 36 rfl ?_
          refine ⟨_, e2_fill l (p := 72) (Or.inl rfl) _ (frT T k) (TW_fr hW k) (RS_fr hS1 k) (RH_fr (RH_md hR1 (md_fa (ps := [2]) (by decide)) (by decide)) k) (by omega), ?_⟩
          rintro r h' ⟨rfl, z2, rfl, hL2, hm2⟩
          have hz3 : ∀ q, RS (fa z2 2 (upd (z2.2.1 2) q (nI (T 0 k)))) T → RS (fa z2 2 (upd (z2.2.1 2) q (nI (T 0 k)))) T := fun _ h => h
          have f2 : z2.2.1 2 = upd (z1.2.1 2) k (-2) := by rw [md_F hm2 (by simp), fa_self]
          have hSp : RS z2 (frT T k) := RS_md (RS_fr hS1 k) hm2 (by simp)
          have hS3 : RS (fa z2 2 (upd (z2.2.1 2) k (z1.2.1 2 k))) T := by
            refine ⟨fun j hj => ?_, hSp.2⟩
            rw [fa_self]
            by_cases c : j = k
            · rw [c, pk_us]; exact hS1.1 k hk64
            · rw [pk_un c, f2, pk_un c]; exact hS1.1 j hj
          have hm3 : md mdN z0 (fa z2 2 (upd (z2.2.1 2) k (z1.2.1 2 k))) := md_tr hm (md_tr (md_tr (md_fa (by decide)) (md_mo hm2 (by decide))) (md_fa (by decide)))
          have hL3 : LY (fa z2 2 (upd (z2.2.1 2) k (z1.2.1 2 k))) 72 (stL (frT T k) (k / 4)) := LY_md hL2 (md_fa (ps := [2]) (by decide)) (by decide) (by decide)
          have hlen := stL_len (frT T k) (k / 4)
          have k43 : ∀ z3, RS z3 T → md mdN z0 z3 → LY z3 72 (stL (frT T k) (k / 4)) → J 43 0 0 [some (.ref 87), some (.int (nI k)), some (.int (z1.2.1 2 k)), some (.int (nI (k / 4)))] [] (st_h z3) := by
            intro z3 hS3 hm3 hL3
            refine ri_go hJ [56] 90 43 rfl ?_
            refine ⟨fun c => ?_, fun c => ⟨?_, z3, rfl, hS3, hfin _ hm3⟩⟩
            · have c : z3.1 72 0 ≤ 400 := c
              rw [hL3.1, show (400 : Int32) = nI 400 from rfl, nn_le (by omega) (by decide)] at c
              refine ⟨_, e6_trialJoins l z3 T hW hS3 (RH_md hR0 hm3 mdN_H) hi hL3 c (fun s x hx => okS_CK (stL_at hx)) (PB_md (hP0 _ hi) hm3 (by omega) (mdN_P (by omega))) (PA_md (hA0 _) hm3 mdN_A hn.2), ?_⟩
              rintro r h' ⟨rfl, z4, rfl, hm4⟩
              refine ⟨fun d => k56 ?_ z4 (RS_md hS3 hm4 sc3_S) (md_tr hm3 (md_mo hm4 (by decide))) _ _, fun d => ⟨?_, z4, rfl, RS_md hS3 hm4 sc3_S, hfin _ (md_tr hm3 (md_mo hm4 (by decide)))⟩⟩
              · rw [e', if_neg (by omega), if_neg (by rw [zb_0.mp d]; decide)]
              · rw [e', if_neg (by omega), if_pos (zb_1.mp d)]
            · have c : ¬ z3.1 72 0 ≤ 400 := c
              rw [hL3.1, show (400 : Int32) = nI 400 from rfl, nn_le (by omega) (by decide)] at c
              rw [e', if_pos (by omega)]
          refine ri_go hJ [43] 90 37 rfl ?_
          refine ⟨hin, ?_⟩
          have := k43 _ hS3 hm3 hL3
          rw [show fa z2 2 (upd (z2.2.1 2) k (z1.2.1 2 k)) = fa z2 2 (upd (z2.2.1 2) (nI k).toNatClampNeg (z1.2.1 2 k)) by rw [cl31 (by omega)]] at this
          exact this
        refine ri_go hJ [36] 90 21 rfl ?_
        refine ⟨by decide, hin, ?_⟩
        rw [← edv] at k36
        exact k36
      refine ri_go hJ [56, 21] 90 4 rfl ?_
      refine ⟨fun c => absurd (show z1.1 1 0 * 4 ≤ nI k from c) ?_, fun _ => ⟨hin, fun c => k21 ?_ _, fun c => k56 ?_ z1 hS1 hm _ _⟩⟩
      · rw [hS1.2.2.2.2.1, show (4 : Int32) = nI 4 from rfl, pk_mul]
        exact nI_ge (by omega) (by omega)
      · have c : ¬ z1.2.1 2 (nI k).toNatClampNeg = -2 := c
        rw [hpi, nC_none (by omega)] at c
        exact c
      · have c : z1.2.1 2 (nI k).toNatClampNeg = -2 := Decidable.not_not.mp c
        rw [hpi, nC_none (by omega)] at c
        rw [e, gwF, if_pos c]
  refine ri_go hJ [4] 90 2 rfl ?_
  exact loop (4 * T 8 2) 0 (Nat.add_zero _) rfl z0 hS0 (md_rf _ _) none none
