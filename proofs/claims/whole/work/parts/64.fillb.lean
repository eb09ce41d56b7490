/-! fillBass -/
theorem max_n {a b : Nat} (ha : a < 2 ^ 31) (hb : b < 2 ^ 31) : (if nI a < nI b then nI b else nI a) = nI (if a < b then b else a) := by
  by_cases h : a < b
  · rw [if_pos (by rw [nn_lt ha hb]; exact h), if_pos h]
  · rw [if_neg (by rw [nn_lt ha hb]; exact h), if_neg h]
theorem min_n {a b : Nat} (ha : a < 2 ^ 31) (hb : b < 2 ^ 31) : (if nI b < nI a then nI b else nI a) = nI (if b < a then b else a) := by
  by_cases h : b < a
  · rw [if_pos (by rw [nn_lt hb ha]; exact h), if_pos h]
  · rw [if_neg (by rw [nn_lt hb ha]; exact h), if_neg h]
/-- where a voice begins: its lowest pitch, or so far below the one above it as may be -/
def begN (lo a w : Nat) : Nat := if lo < a - w then a - w else lo
theorem beg_n {lo a w : Nat} (h1 : 36 ≤ lo) (hl : lo < 2 ^ 30) (ha : a < 2 ^ 30) (hw : w < 2 ^ 30) : (if nI lo < nI a - nI w then nI a - nI w else nI lo) = nI (begN lo a w) := by
  unfold begN
  have e := pk_sub_toInt ha hw
  by_cases h : lo < a - w
  · rw [if_pos h, if_pos (by rw [pk_sub (by omega), nn_lt (by omega) (by omega)]; exact h), pk_sub (by omega)]
  · rw [if_neg h, if_neg (by rw [Int32.lt_iff_toInt_lt, e, nI_toInt (by omega)]; omega)]
def endN (hi a : Nat) : Nat := if a < hi then a else hi
theorem wid_st : ∀ k, k < 3 → st_WIDEST_BELOW.getD (nI k).toNatClampNeg 0 = nI ([12, 12, 19].getD k 0) := by decide +kernel
theorem BT_md {ps : List Nat} {z z' : st_T} {T : tT} {i n : Nat} (h : BT z T i n) (hm : md ps z z') (hd : ∀ p ∈ ps, p < 15 ∨ 16 < p) : BT z' T i n := by
  intro v hv
  have h15 := (hm.1 15 (fun q => by have := hd 15 q; omega)).2
  have h16 := (hm.1 16 (fun q => by have := hd 16 q; omega)).2
  rw [h15, h16]
  exact h v hv
theorem e2_fillBass (l : Launch) {p : Nat} (hp : lyP p) (z : st_T) (T : tT) (hW : TW T) (hS : RS z T) (hR : RH z T) {i U t : Nat} {M : Nat → Bool} (hi : i < 16) (hB : BT z T i 4) (hU : U < 2 ^ 18) (ht : 36 ≤ t ∧ t ≤ 84) (hok : ∀ x, x / 1024 = U → okS T i x = (decide (chd x < 13) && (M (chd x) && (basM T i (pit x 3) (chd x) && (decide (lowN T i 3 ≤ pit x 3) && (decide (pit x 3 ≤ highN T i 3) && (decide (pit x 3 ≤ t) && (decide (t ≤ pit x 3 + 19) && k45 T x)))))))) (hL : LY z p (stB T i (1024 * U))) : ri_Ev l y2_fillBass w2_fillBass r2_fillBass 0 0 [.ref 30, .ref (16 + p), .int (nI i), .int (nI U), .int (nI t), .int (nI (msk M 13))] (st_h z) (ri_zx fun z' => LY z' p (stB T i (1024 * U + 1024)) ∧ md [p, p + 1] z z') := by
  refine ri_ev (t2_fillBass l _) rfl rfl rfl (Nat.le_of_ble_eq_true rfl) rfl (z2_fillBass l _) (fun J hJ => ?_)
  have hp9 : 23 ≤ p := by rcases hp with h | ⟨i, _, h⟩ <;> omega
  have hmd : ∀ q ∈ [p, p + 1], q < 9 ∨ 13 < q := by
    intro q hq
    simp only [List.mem_cons, List.not_mem_nil, or_false] at hq
    omega
  have hmd2 : ∀ q ∈ [p, p + 1], 8 < q := by
    intro q hq
    simp only [List.mem_cons, List.not_mem_nil, or_false] at hq
    omega
  have lims := lim_lt hW hi (v := 3) (by decide)
  have loop : ∀ n b, n + b = 101 → 36 ≤ b → begN (lowN T i 3) t 19 ≤ b → b ≤ 100 → ∀ z1, LY z1 p (stB T i (1024 * U + 16 * (b - 36))) → md [p, p + 1] z z1 → ∀ o, J 18 0 0 [some (.ref 30), some (.ref (16 + p)), some (.int (nI i)), some (.int (nI U)), some (.int (nI t)), some (.int (nI (msk M 13))), some (.int (nI (endN (highN T i 3) t))), some (.int (nI b)), o] [] (st_h z1) := by
    intro n
    induction n with
    | zero =>
      intro b hb h36 hbeg hb100
      omega
    | succ n ih =>
      intro b hb h36 hbeg hb100 z1 hL1 hm o
      have e1 := nI_1 b
      have hR1 := RH_md hR hm hmd
      have hS1 := RS_md hS hm hmd2
      have hend : endN (highN T i 3) t ≤ 84 := by unfold endN; split <;> omega
      have hbg : lowN T i 3 ≤ b ∧ t ≤ b + 19 := by unfold begN at hbeg; split at hbeg <;> omega
      refine ri_go hJ [18, 37] 90 18 rfl ?_
      refine ⟨fun c => ⟨rfl, _, rfl, ?_, hm⟩, fun c => ⟨_, e2_bassChords l z1 T hW hS1 hR1 hi (p := b) (by omega), ?_⟩⟩
      · have c : nI (endN (highN T i 3) t) < nI b := c
        rw [nn_lt (by omega) (by omega)] at c
        rw [stB_to (B := 1024 * U + 16 * (b - 36)) (by omega) (fun x h1 h2 => ?_)]
        · exact hL1
        · have hx : x / 1024 = U := by omega
          have hp3 : b ≤ pit x 3 := by rw [pit3]; omega
          rw [hok x hx]
          by_cases hh : pit x 3 ≤ highN T i 3
          · rw [decide_eq_false (show ¬ pit x 3 ≤ t by unfold endN at c; split at c <;> omega)]; simp
          · rw [decide_eq_false hh]; simp
      · rintro r h' ⟨rfl, rfl⟩
        have c : ¬ nI (endN (highN T i 3) t) < nI b := c
        rw [nn_lt (by omega) (by omega)] at c
        have hbe : b ≤ highN T i 3 ∧ b ≤ t := by unfold endN at c; split at c <;> omega
        have hmk : nI (msk M 13) &&& nI (msk (basM T i b) 13) = nI (msk (fun c => M c && basM T i b c) 13) := by rw [nx_and, msk_and]
        have hmlt : msk (fun c => M c && basM T i b c) 13 < 2 ^ 31 := Nat.lt_trans (msk_lt _ 13) (by decide)
        have hblk : ∀ x, x / 16 = 64 * U + (b - 36) → okS T i x = (decide (chd x < 13) && ((M (chd x) && basM T i b (chd x)) && k45 T x)) := by
          intro x hx
          have hp3 : pit x 3 = b := by rw [pit3]; omega
          rw [hok x (by omega), hp3, decide_eq_true hbg.1, decide_eq_true hbe.1, decide_eq_true hbe.2, decide_eq_true hbg.2]
          simp [Bool.and_assoc]
        have k37 : ∀ z2, LY z2 p (stB T i (1024 * U + 16 * (b + 1 - 36))) → md [p, p + 1] z z2 → ∀ o', J 37 0 0 [some (.ref 30), some (.ref (16 + p)), some (.int (nI i)), some (.int (nI U)), some (.int (nI t)), some (.int (nI (msk M 13))), some (.int (nI (endN (highN T i 3) t))), some (.int (nI b)), o'] [] (st_h z2) := by
          intro z2 hL2 hm2 o'
          refine ri_go hJ [18] 90 37 rfl ?_
          have := ih (b + 1) (by omega) (by omega) (by omega) (by omega) z2 hL2 hm2 o'
          rw [← e1] at this
          exact this
        refine ⟨fun d => ?_, fun d => ?_⟩
        · have d : nI (msk M 13) &&& nI (msk (basM T i b) 13) = 0 := d
          rw [hmk, nk_eq (k := 0) (b := 0) rfl hmlt (by decide)] at d
          refine k37 z1 ?_ hm _
          rw [stB_to (B := 1024 * U + 16 * (b - 36)) (by omega) (fun x h1 h2 => ?_)]
          · exact hL1
          · rw [hblk x (by omega)]
            by_cases hc13 : chd x < 13
            · rw [msk_z d _ hc13]; simp
            · rw [decide_eq_false hc13]; rfl
        · refine ⟨_, e11_withVoice l _ _ _, ?_⟩
          rintro r h' ⟨rfl, rfl⟩
          have wv : (nI U <<< ((6 : Int32) &&& 31)) ||| (nI b - 36) = nI (64 * U + (b - 36)) := by
            rw [show ((6 : Int32) &&& 31) = nI 6 &&& 31 from rfl, pk_shlN (n := U) _ 6 (sh_amt2 (k := 6) (by decide)) (by omega), show (36 : Int32) = nI 36 from rfl, pk_sub h36, nn_or (k := 6) (by omega)]
            rw [show U * 2 ^ 6 = 64 * U by omega]
          have ea := e2_addComplete l hp z1 T hW hR1 (i := i) (V := 64 * U + (b - 36)) (M := fun c => M c && basM T i b c) (by omega) hblk (by rw [show 16 * (64 * U + (b - 36)) = 1024 * U + 16 * (b - 36) by omega]; exact hL1)
          rw [← wv, ← hmk] at ea
          refine ⟨_, ea, ?_⟩
          rintro r h' ⟨rfl, z2, rfl, hL2, hm2⟩
          refine k37 z2 ?_ (md_tr hm hm2) _
          rw [show 1024 * U + 16 * (b + 1 - 36) = 16 * (64 * U + (b - 36)) + 16 by omega]
          exact hL2
  have b3 := hB 3 (by decide)
  have hb36 : 36 ≤ begN (lowN T i 3) t 19 := by unfold begN; split <;> omega
  have hb84 : begN (lowN T i 3) t 19 ≤ 100 := by unfold begN; split <;> omega
  have eb : (if z.2.1 15 (3 : Int32).toNatClampNeg < nI t - st_WIDEST_BELOW.getD (nI 2).toNatClampNeg 0 then nI t - st_WIDEST_BELOW.getD (nI 2).toNatClampNeg 0 else z.2.1 15 (3 : Int32).toNatClampNeg) = nI (begN (lowN T i 3) t 19) := by
    rw [show (3 : Int32).toNatClampNeg = 3 from rfl, b3.1, wid_st 2 (by decide)]
    exact beg_n lims.2.2 (by omega) (by omega) (by decide)
  have ee : (if nI t < z.2.1 16 (3 : Int32).toNatClampNeg then nI t else z.2.1 16 (3 : Int32).toNatClampNeg) = nI (endN (highN T i 3) t) := by
    rw [show (3 : Int32).toNatClampNeg = 3 from rfl, b3.2]
    exact min_n (by omega) (by omega)
  have hst := loop (101 - begN (lowN T i 3) t 19) (begN (lowN T i 3) t 19) (by omega) hb36 (Nat.le_refl _) hb84 z (by
    rw [stB_to (B := 1024 * U) (by omega) (fun x h1 h2 => ?_)]
    · exact hL
    · have hx : x / 1024 = U := by omega
      have hp3 : pit x 3 < begN (lowN T i 3) t 19 := by rw [pit3]; omega
      rw [hok x hx]
      by_cases hh : lowN T i 3 ≤ pit x 3
      · rw [decide_eq_false (show ¬ t ≤ pit x 3 + 19 by unfold begN at hp3; split at hp3 <;> omega)]; simp
      · rw [decide_eq_false hh]; simp) (md_rf _ _) none
  rw [← eb, ← ee] at hst
  refine ri_run_ok hJ [18] 90 0 0 0 _ _ _ ?_
  exact ⟨vp_in_nI (n := 3) (by decide) (by decide), vp_in_nI (n := 3) (by decide) (by decide), vp_in_nI (n := 2) (by decide) (by decide), hst⟩
