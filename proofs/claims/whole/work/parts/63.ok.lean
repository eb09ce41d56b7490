/-! the states of a place, as numbers in their order -/
def has (T : tT) (c p : Nat) : Bool := decide (tmof T c p < 4)
def rgv (T : tT) (i v x : Nat) : Bool := decide (lowN T i v ≤ pit x v) && decide (pit x v ≤ highN T i v)
def spc (x : Nat) : Bool := decide (pit x 1 ≤ pit x 0) && (decide (pit x 0 ≤ pit x 1 + 12) && (decide (pit x 2 ≤ pit x 1) && (decide (pit x 1 ≤ pit x 2 + 12) && (decide (pit x 3 ≤ pit x 2) && decide (pit x 2 ≤ pit x 3 + 19)))))
def okS (T : tT) (i x : Nat) : Bool := decide (x < 2 ^ 28) && (decide (chd x < 13) && (rgv T i 0 x && (rgv T i 1 x && (rgv T i 2 x && (rgv T i 3 x && (spc x && ((figM T i (chd x) && r6 T i (chd x)) && (has T (chd x) (pit x 0) && (has T (chd x) (pit x 1) && (has T (chd x) (pit x 2) && (basM T i (pit x 3) (chd x) && k45 T x)))))))))))
def stB (T : tT) (i B : Nat) : List Nat := (List.range B).filter (okS T i)
/-- all of them -/
def stL (T : tT) (i : Nat) : List Nat := stB T i (2 ^ 28)
theorem stB_succ (T : tT) (i B : Nat) : stB T i (B + 1) = if okS T i B = true then stB T i B ++ [B] else stB T i B := by
  unfold stB
  rw [List.range_succ, List.filter_append]
  by_cases h : okS T i B = true
  · rw [if_pos h]; simp [h]
  · rw [if_neg h]; simp [h]
theorem stB_skip {T : tT} {i B : Nat} : ∀ {n : Nat}, (∀ x, B ≤ x → x < B + n → okS T i x = false) → stB T i (B + n) = stB T i B
  | 0, _ => rfl
  | n + 1, h => by
    rw [show B + (n + 1) = (B + n) + 1 by omega, stB_succ, if_neg (by rw [h (B + n) (by omega) (by omega)]; decide)]
    exact stB_skip (fun x h1 h2 => h x h1 (by omega))
theorem stB_to {T : tT} {i B B' : Nat} (hle : B ≤ B') (h : ∀ x, B ≤ x → x < B' → okS T i x = false) : stB T i B' = stB T i B := by
  have := stB_skip (T := T) (i := i) (B := B) (n := B' - B) (fun x h1 h2 => h x h1 (by omega))
  rw [show B + (B' - B) = B' by omega] at this
  exact this
theorem stB_len (T : tT) (i B : Nat) : (stB T i B).length ≤ B := by
  have := List.length_filter_le (okS T i) (List.range B)
  rw [List.length_range] at this
  exact this
theorem pit0 (x : Nat) : pit x 0 = 36 + x / 4194304 % 64 := rfl
theorem pit1 (x : Nat) : pit x 1 = 36 + x / 65536 % 64 := rfl
theorem pit2 (x : Nat) : pit x 2 = 36 + x / 1024 % 64 := rfl
theorem pit3 (x : Nat) : pit x 3 = 36 + x / 16 % 64 := rfl
theorem chd_d (x : Nat) : chd x = x % 16 := rfl
theorem okS_f {a b : Bool} (h : b = false) : (a && b) = false := by rw [h, Bool.and_false]
/-- addComplete: the thirteen chords over one set of voices -/
theorem e2_addComplete (l : Launch) {p : Nat} (hp : lyP p) (z : st_T) (T : tT) (hW : TW T) (hR : RH z T) {i V : Nat} {M : Nat → Bool} (hV : V < 2 ^ 24) (hok : ∀ x, x / 16 = V → okS T i x = (decide (chd x < 13) && (M (chd x) && k45 T x))) (hL : LY z p (stB T i (16 * V))) : ri_Ev l y2_addComplete w2_addComplete r2_addComplete 0 0 [.ref 30, .ref (16 + p), .int (nI V), .int (nI (msk M 13))] (st_h z) (ri_zx fun z' => LY z' p (stB T i (16 * V + 16)) ∧ md [p, p + 1] z z') := by
  refine ri_ev (t2_addComplete l _) rfl rfl rfl (Nat.le_of_ble_eq_true rfl) rfl (z2_addComplete l _) (fun J hJ => ?_)
  have hp9 : 23 ≤ p := by rcases hp with h | ⟨i, _, h⟩ <;> omega
  have hmd : ∀ q ∈ [p, p + 1], q < 9 ∨ 13 < q := by
    intro q hq
    simp only [List.mem_cons, List.not_mem_nil, or_false] at hq
    omega
  have hoat : ∀ z1 : st_T, ri_at (st_h z1) (16 + p) = some (.inr (5, [.int (z1.1 p 0), .ref (17 + p), .ref (18 + p)])) := lyP_cases (P := fun p => ∀ z1 : st_T, ri_at (st_h z1) (16 + p) = some (.inr (5, [.int (z1.1 p 0), .ref (17 + p), .ref (18 + p)]))) hp (fun _ => rfl) (fun _ => rfl) (fun _ => rfl) (fun _ => rfl) (fun _ => rfl) (fun _ => rfl) (fun _ => rfl) (fun _ => rfl) (fun _ => rfl) (fun _ => rfl) (fun _ => rfl) (fun _ => rfl) (fun _ => rfl) (fun _ => rfl) (fun _ => rfl) (fun _ => rfl) (fun _ => rfl)
  have h16 : Nat.ble 16 (16 + p) = true := Nat.ble_eq_true_of_le (Nat.le_add_right 16 p)
  have loop : ∀ n c, n + c = 13 → ∀ z1, LY z1 p (stB T i (16 * V + c)) → md [p, p + 1] z z1 → ∀ o, J 2 0 0 [some (.ref 30), some (.ref (16 + p)), some (.int (nI V)), some (.int (nI (msk M 13))), some (.int (nI c)), o] [] (st_h z1) := by
    intro n
    induction n with
    | zero =>
      intro c hc z1 hL1 hm o
      have hc13 : c = 13 := by omega
      subst hc13
      refine ri_go hJ [2] 60 2 rfl ?_
      refine ⟨fun _ => ⟨rfl, _, rfl, ?_, hm⟩, fun c => absurd (by decide) c⟩
      rw [stB_to (B := 16 * V + 13) (by omega) (fun x h1 h2 => ?_)]
      · exact hL1
      · rw [hok x (by omega), decide_eq_false (show ¬ chd x < 13 by rw [chd_d]; omega)]; rfl
    | succ n ih =>
      intro c hc z1 hL1 hm o
      have e1 := nI_1 c
      have hx : 16 * V + c < 2 ^ 28 := by omega
      have hcd : chd (16 * V + c) = c := by rw [chd_d]; omega
      have hR1 := RH_md hR hm hmd
      have hko := hok (16 * V + c) (by omega)
      rw [hcd, decide_eq_true (show c < 13 by omega), Bool.true_and] at hko
      have k24 : ∀ z2, LY z2 p (stB T i (16 * V + (c + 1))) → md [p, p + 1] z z2 → ∀ o', J 24 0 0 [some (.ref 30), some (.ref (16 + p)), some (.int (nI V)), some (.int (nI (msk M 13))), some (.int (nI c)), o'] [] (st_h z2) := by
        intro z2 hL2 hm2 o'
        refine ri_go hJ [2] 60 24 rfl ?_
        have := ih (c + 1) (by omega) z2 hL2 hm2 o'
        rw [← e1] at this
        exact this
      have hsh := msk_shr M (n := 13) (c := c) (by decide) (by omega)
      have wv : (nI V <<< ((4 : Int32) &&& 31)) ||| nI c = nI (16 * V + c) := by
        rw [show ((4 : Int32) &&& 31) = nI 4 &&& 31 from rfl, pk_shlN (n := V) _ 4 (sh_amt2 (k := 4) (by decide)) (by omega), nn_or (k := 4) (by omega)]
        rw [show V * 2 ^ 4 = 16 * V by omega]
      refine ri_go hJ [2, 24] 60 2 rfl ?_
      refine ⟨fun c => absurd c (nI_ge (b := 13) (by omega) (by decide)), fun _ => ⟨fun d => k24 z1 ?_ hm _, fun d => ⟨_, e11_withChord l _ _ _, ?_⟩⟩⟩
      · have d : ¬ (nI (msk M 13) >>> (nI c &&& 31)) &&& 1 = 1 := d
        rw [hsh] at d
        have hM : M c = false := by
          cases h : M c with
          | false => rfl
          | true => rw [h] at d; exact absurd rfl d
        rw [hM, Bool.false_and] at hko
        rw [show 16 * V + (c + 1) = (16 * V + c) + 1 by omega, stB_succ, if_neg (by rw [hko]; decide)]
        exact hL1
      · rintro r h' ⟨rfl, rfl⟩
        have d : (nI (msk M 13) >>> (nI c &&& 31)) &&& 1 = 1 := Decidable.not_not.mp d
        rw [hsh] at d
        have hM : M c = true := by
          cases h : M c with
          | true => rfl
          | false => rw [h] at d; exact absurd d (by decide)
        rw [hM, Bool.true_and] at hko
        have ek := e2_keeps l z1 T hW hR1 hx (by rw [hcd]; omega)
        rw [hcd, ← wv] at ek
        refine ⟨_, ek, ?_⟩
        rintro r h' ⟨rfl, rfl⟩
        refine ⟨fun g => k24 z1 ?_ hm _, fun g => ?_⟩
        · rw [zb_0.mp g] at hko
          rw [show 16 * V + (c + 1) = (16 * V + c) + 1 by omega, stB_succ, if_neg (by rw [hko]; decide)]
          exact hL1
        · rw [zb_1.mp g] at hko
          conv => whnf
          rw [hoat z1]
          conv => whnf
          rw [h16]
          have ea := e5_add l hp (x := 16 * V + c) hL1 (Nat.lt_of_le_of_lt (stB_len _ _ _) (by omega))
          rw [← wv] at ea
          refine ⟨_, ea, ?_⟩
          rintro r h' ⟨rfl, z2, rfl, hL2, hm2⟩
          refine k24 z2 ?_ (md_tr hm hm2) _
          rw [show 16 * V + (c + 1) = (16 * V + c) + 1 by omega, stB_succ, if_pos hko]
          exact hL2
  exact ri_run_ok hJ [2] 60 0 0 0 _ _ _ (loop 13 0 rfl z hL (md_rf _ _) _)
