/-! THE FACE: style, key, places -/
theorem two_bit (c i : Nat) : (2 ^ c).testBit i = decide (c = i) := Nat.testBit_two_pow
theorem sty_or (P : Nat → Bool) {c : Nat} (hc : c < 13) : nI (msk P 13) ||| nI (2 ^ c) = nI (msk (fun j => P j || (j == c)) 13) := by
  rw [nx_or]
  refine congrArg nI (Nat.eq_of_testBit_eq (fun i => ?_))
  rw [Nat.testBit_or, msk_bit, msk_bit, two_bit]
  by_cases q : i = c
  · rw [q, eq_b rfl, decide_eq_true hc, decide_eq_true (rfl : c = c)]; simp
  · rw [ne_b q, decide_eq_false (fun e : c = i => q e.symm)]; simp
theorem m1_bit : ∀ i, i < 32 → (-1 : Int32).toBitVec.getLsbD i = true := by decide
theorem sty_an (P : Nat → Bool) {c : Nat} (hc : c < 13) : nI (msk P 13) &&& (nI (2 ^ c) ^^^ -1) = nI (msk (fun j => P j && !(j == c)) 13) := by
  apply Int32.toBitVec_inj.mp
  apply BitVec.eq_of_getLsbD_eq
  intro i hi
  have e : ∀ n : Nat, (nI n).toBitVec = BitVec.ofNat 32 n := fun _ => rfl
  rw [Int32.toBitVec_and, Int32.toBitVec_xor, BitVec.getLsbD_and, BitVec.getLsbD_xor, m1_bit i hi, e, e, e, BitVec.getLsbD_ofNat, BitVec.getLsbD_ofNat, BitVec.getLsbD_ofNat, decide_eq_true hi, msk_bit, msk_bit, two_bit]
  by_cases q : i = c
  · rw [q, eq_b rfl, decide_eq_true (rfl : c = c)]; simp
  · rw [ne_b q, decide_eq_false (fun e : c = i => q e.symm)]; simp
theorem sty_zb {T : tT} (hW : TW T) {c : Nat} (hc : c < 13) : zb (sty T c) = nI (T 4 c) := by
  have h := hW.2.2.2.2.2.1 c hc
  unfold sty
  by_cases q : T 4 c = 1
  · rw [q]; rfl
  · rw [show T 4 c = 0 by omega]; rfl
theorem e9_style (l : Launch) (z : st_T) (T : tT) (Q : tQ) (hI : CI z T Q) (c : Int32) (on : Bool) : ri_Ev l y9_style w9_style r9_style 0 0 [.ref 16, .int c, .int (zb on)] (st_h z) (CO z (sp_style T Q c on)) := by
  obtain ⟨hW, hQ, hS, hR, hF, hO⟩ := id hI
  refine ri_ev (t9_style l _) rfl rfl rfl (Nat.le_of_ble_eq_true rfl) rfl (z9_style l _) (fun J hJ => ?_)
  have bad : bt 0 c 12 = false → CO z (sp_style T Q c on) (some (.int (-1))) (st_h z) := fun h => CO_same hI (by unfold sp_style; rw [h]; rfl)
  refine ri_run_ok hJ [] 90 0 0 0 _ _ _ ?_
  refine ⟨_, e9_isChord l _ c, ?_⟩
  rintro r h' ⟨rfl, rfl⟩
  refine ⟨fun c1 => ?_, fun q => bad (zb_0.mp (Decidable.not_not.mp q))⟩
  have b1 := zb_1.mp c1
  obtain ⟨k1, k2⟩ := nt_le (m := 12) (by decide) b1
  have hk : nt c < 13 := by omega
  have e6 := hS.2.2.2.2.2
  have eb : (1 : Int32) <<< (c &&& 31) = nI (2 ^ nt c) := by
    have := bit_shl (c := nt c) (by omega)
    rw [k2] at this; exact this
  have ea : (z.1 1 1 >>> (c &&& 31)) &&& 1 = nI (T 4 (nt c)) := by
    have := msk_shr (sty T) (n := 13) (c := nt c) (by decide) hk
    rw [k2, sty_zb hW hk, ← e6] at this; exact this
  have fin : ∀ x : Int32, x = nI (msk (sty (stT T 4 (nt c) (bif on then 1 else 0))) 13) → CO z (sp_style T Q c on) (some (.int ((z.1 1 1 >>> (c &&& 31)) &&& 1))) (st_h (ff (fs z 1 1 x))) := by
    intro x hx
    rw [ea]
    refine CO_ff (ps := [1]) (T := stT T 4 (nt c) (bif on then 1 else 0)) ?_ (TW_s hW (by cases on <;> decide)) ?_ (RH_md (T := T) hR (md_fs (ps := [1]) (by decide)) (by decide)) (md_fs (by decide)) (by decide)
    · unfold sp_style
      rw [b1]; rfl
    · obtain ⟨s1, s2, s3, s4, s5, s6⟩ := hS
      refine ⟨s1, s2, s3, s4, ?_, ?_⟩
      · rw [fs_ff _ (by decide)]; exact s5
      · rw [fs_self]; exact hx
  cases on
  · refine ⟨fun _ => ⟨_, e9_forgetFound l (fs z 1 1 (z.1 1 1 &&& (((1 : Int32) <<< (c &&& 31)) ^^^ (-1)))), ?_⟩, fun q => absurd rfl q⟩
    rintro r h' ⟨rfl, rfl⟩
    refine fin _ ?_
    rw [eb, e6, sty_an _ hk]
    refine congrArg nI (msk_cong (fun j hj => ?_))
    show (sty T j && !(j == nt c)) = (stT T 4 (nt c) 0 4 j == 1)
    rw [stT_s]
    by_cases q : j = nt c
    · rw [eq_b q, if_pos q]; simp
    · rw [ne_b q, if_neg q]; simp [sty]
  · refine ⟨fun q => absurd q (by decide), fun _ => ⟨_, e9_forgetFound l (fs z 1 1 (z.1 1 1 ||| ((1 : Int32) <<< (c &&& 31)))), ?_⟩⟩
    rintro r h' ⟨rfl, rfl⟩
    refine fin _ ?_
    rw [eb, e6, sty_or _ hk]
    refine congrArg nI (msk_cong (fun j hj => ?_))
    show (sty T j || (j == nt c)) = (stT T 4 (nt c) 1 4 j == 1)
    rw [stT_s]
    by_cases q : j = nt c
    · rw [eq_b q, if_pos q]; simp
    · rw [ne_b q, if_neg q]; simp [sty]
-- from the beginning of the heap back to the whole
theorem upq_eq {α : Type} {a b c d : Nat} (S S' : Nat → α) (h : ∀ p, p ∉ [a, b, c, d] → S' p = S p) : S' = va_up (va_up (va_up (va_up S a (S' a)) b (S' b)) c (S' c)) d (S' d) := by
  funext p
  by_cases h4 : p = d
  · subst h4; rw [va_up_self]
  · rw [va_up_ne _ _ h4]
    by_cases h3 : p = c
    · subst h3; rw [va_up_self]
    · rw [va_up_ne _ _ h3]
      by_cases h2 : p = b
      · subst h2; rw [va_up_self]
      · rw [va_up_ne _ _ h2]
        by_cases h1 : p = a
        · subst h1; rw [va_up_self]
        · rw [va_up_ne _ _ h1]
          exact h p (by simp; exact ⟨h1, h2, h3, h4⟩)
def up4z (z : st_T) (a b c d : Nat) (S F : Nat → Nat → Int32) : st_T := (va_up (va_up (va_up (va_up z.1 a (S a)) b (S b)) c (S c)) d (S d), va_up (va_up (va_up (va_up z.2.1 a (F a)) b (F b)) c (F c)) d (F d), z.2.2)
theorem up4z_eq {a b c d : Nat} {z z' : st_T} (h : md [a, b, c, d] z z') : z' = up4z z a b c d z'.1 z'.2.1 := by
  obtain ⟨S', F', b'⟩ := z'
  have e : b' = z.2.2 := h.2
  have eS : S' = _ := upq_eq z.1 S' (fun p hp => (h.1 p hp).1)
  have eF : F' = _ := upq_eq z.2.1 F' (fun p hp => (h.1 p hp).2)
  exact Prod.ext eS (Prod.ext eF e)
theorem hv_up (z : st_T) (S F : Nat → Nat → Int32) : hv ((st_h z).headD (.inr (0, []))) (up4z z 9 10 11 12 S F) ((st_h z).drop 14) = st_h (up4z z 9 10 11 12 S F) := rfl
theorem hw_up (z : st_T) (S F : Nat → Nat → Int32) : hw ((st_h z).headD (.inr (0, []))) (up4z z 2 3 4 5 S F) ((st_h z).drop 9) = st_h (up4z z 2 3 4 5 S F) := rfl
theorem hv_back {z z' : st_T} (h : md md4 z z') : hv ((st_h z).headD (.inr (0, []))) z' ((st_h z).drop 14) = st_h z' := by
  rw [up4z_eq (a := 9) (b := 10) (c := 11) (d := 12) h]
  exact hv_up z _ _
theorem hw_back {z z' : st_T} (h : md md5 z z') : hw ((st_h z).headD (.inr (0, []))) z' ((st_h z).drop 9) = st_h z' := by
  rw [up4z_eq (a := 2) (b := 3) (c := 4) (d := 5) h]
  exact hw_up z _ _
theorem e9_key (l : Launch) (z : st_T) (T : tT) (Q : tQ) (hI : CI z T Q) (t m : Int32) : ri_Ev l y9_key w9_key r9_key 0 0 [.ref 16, .int t, .int m] (st_h z) (CO z (sp_key T Q t m)) := by
  obtain ⟨hW, hQ, hS, hR, hF, hO⟩ := id hI
  refine ri_ev (t9_key l _) rfl rfl rfl (Nat.le_of_ble_eq_true rfl) rfl (z9_key l _) (fun J hJ => ?_)
  have bad : (bt 0 t 11 && bt 0 m 1) = false → CO z (sp_key T Q t m) (some (.int (-1))) (st_h z) := fun h => CO_same hI (by unfold sp_key; rw [h]; rfl)
  refine ri_run_ok hJ [] 90 0 0 0 _ _ _ ?_
  refine ⟨fun c => bad (by rw [bt_lo c]; rfl), fun c1 => ⟨fun c => bad (by rw [bt_hi ((gts rfl).mp c)]; rfl), fun c2 => ⟨fun c => bad (by rw [bt_lo (x := m) c, Bool.and_false]), fun c3 => ⟨fun c4 => ?_, fun c => bad (by rw [bt_hi (x := m) (nlt_le c), Bool.and_false])⟩⟩⟩⟩
  have b1 : bt 0 t 11 = true := bt_in c1 (fun q => c2 ((gts rfl).mpr q))
  have b2 : bt 0 m 1 = true := bt_in c3 (le_nlt c4)
  obtain ⟨k1, k2⟩ := nt_le (m := 11) (by decide) b1
  obtain ⟨v1, v2⟩ := nt_le (m := 1) (by decide) b2
  have e := e1_tune l ((st_h z).headD (.inr (0, []))) ((st_h z).drop 14) z (stT (stT T 8 0 (nt t)) 8 1 (nt m)) (by show nt t < 12; omega) (by show nt m ≤ 1; omega) hR.2.2.2.2.2.2
  rw [show nI (stT (stT T 8 0 (nt t)) 8 1 (nt m) 8 0) = t from k2, show nI (stT (stT T 8 0 (nt t)) 8 1 (nt m) 8 1) = m from v2, ← st_hv] at e
  refine ⟨_, e, ?_⟩
  rintro r h' ⟨rfl, z', e', hR', hm⟩
  rw [hv_back hm] at e'
  subst e'
  refine ⟨_, e9_forgetFound l z', ?_⟩
  rintro r h' ⟨rfl, rfl⟩
  refine CO_ff (ps := md4) (T := stT (stT T 8 0 (nt t)) 8 1 (nt m)) ?_ (TW_k hW (by omega) v1) (RS_md (T := T) hS hm (by decide)) hR' hm (by decide)
  unfold sp_key
  rw [b1, b2]; rfl
theorem e9_places (l : Launch) (z : st_T) (T : tT) (Q : tQ) (hI : CI z T Q) (n : Int32) : ri_Ev l y9_places w9_places r9_places 0 0 [.ref 16, .int n] (st_h z) (CO z (sp_places T Q n)) := by
  obtain ⟨hW, hQ, hS, hR, hF, hO⟩ := id hI
  refine ri_ev (t9_places l _) rfl rfl rfl (Nat.le_of_ble_eq_true rfl) rfl (z9_places l _) (fun J hJ => ?_)
  have bad : bt 1 n 16 = false → CO z (sp_places T Q n) (some (.int (-1))) (st_h z) := fun h => CO_same hI (by unfold sp_places; rw [h]; rfl)
  refine ri_run_ok hJ [] 90 0 0 0 _ _ _ ?_
  refine ⟨fun c => bad (bt_lo c), fun c1 => ⟨fun c4 => ?_, fun c => bad (bt_hi (nlt_le c))⟩⟩
  have b1 : bt 1 n 16 = true := bt_in c1 (le_nlt c4)
  obtain ⟨n1, n2, n3⟩ := nt_ge (k := 1) (m := 16) (by decide) (by decide) b1
  have e := e0_clearFrom l ((st_h (fs z 1 0 n)).headD (.inr (0, []))) ((st_h (fs z 1 0 n)).drop 9) (fs z 1 0 n) (n := nt n) n1
  rw [n3, ← st_hw] at e
  refine ⟨_, e, ?_⟩
  rintro r h' ⟨rfl, z', e', hC, hm⟩
  rw [hw_back hm] at e'
  subst e'
  refine ⟨_, e9_forgetFound l z', ?_⟩
  rintro r h' ⟨rfl, rfl⟩
  have hm2 : md [1, 2, 3, 4, 5] z z' := md_tr (md_fs (by decide)) (md_mo hm (by decide))
  refine CO_ff (v := z.1 1 0) (ps := [1, 2, 3, 4, 5]) (T := clT T (nt n)) ?_ (TW_p hW n2 n1) ?_ (RH_md (T := T) hR hm2 (by decide)) hm2 (by decide)
  · unfold sp_places
    rw [b1, hS.2.2.2.2.1]; rfl
  · obtain ⟨s1, s2, s3, s4, s5, s6⟩ := hS
    have f1 : z'.1 1 = (fs z 1 0 n).1 1 := (hm.1 1 (by decide)).1
    refine ⟨fun j hj => ?_, fun j hj => ?_, fun j hj => ?_, fun j hj => ?_, ?_, ?_⟩
    · rw [hC.1 j hj, clT_0]
      by_cases q : 4 * nt n ≤ j
      · rw [if_pos ⟨q, by omega⟩, if_pos q]; rfl
      · rw [if_neg (by omega), if_neg q]; exact s1 j hj
    · obtain ⟨d1, d2, d3⟩ := hC.2 j hj
      rw [d1, d2, d3, clT_1, clT_2, clT_3]
      by_cases q : nt n ≤ j
      · have q2 : nt n ≤ j ∧ j < 16 := ⟨q, hj⟩
        simp only [if_pos q2, if_pos q]
        exact ⟨rfl, rfl, rfl⟩
      · have q2 : ¬ (nt n ≤ j ∧ j < 16) := fun h => q h.1
        simp only [if_neg q2, if_neg q]
        exact s2 j hj
    · rw [md_F hm2 (by decide)]; exact s3 j hj
    · rw [md_F hm2 (by decide), md_F hm2 (by decide)]; exact s4 j hj
    · rw [f1, fs_self]; exact n3.symm
    · rw [f1, fs_ff _ (by decide)]; exact s6
