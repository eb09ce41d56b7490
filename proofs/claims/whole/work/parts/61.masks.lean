/-! which chords may stand: masks; rules 4 and 5 -/
theorem msk_cong {P Q : Nat → Bool} : ∀ {n : Nat}, (∀ c, c < n → P c = Q c) → msk P n = msk Q n
  | 0, _ => rfl
  | n + 1, h => by
    unfold msk
    rw [msk_cong (fun c hc => h c (by omega)), h n (Nat.lt_succ_self n)]
theorem msk_one {f n : Nat} (hf : f < n) : 2 ^ f = msk (fun c => c == f) n := by
  apply Nat.eq_of_testBit_eq
  intro i
  rw [Nat.testBit_two_pow, msk_bit]
  by_cases h : f = i
  · subst h; simp [hf]
  · simp [h, Ne.symm h]
theorem and_m1 (x : Int32) : x &&& (-1) = x := by
  apply Int32.toBitVec_inj.mp
  simp
theorem msk_ne {P : Nat → Bool} {n c : Nat} (hc : c < n) (h : P c = true) : ¬ msk P n = 0 := by
  intro q
  have := msk_bit P n c
  rw [q, Nat.zero_testBit, decide_eq_true hc, h] at this
  cases this
theorem msk_z {P : Nat → Bool} {n : Nat} (h : msk P n = 0) : ∀ c, c < n → P c = false := by
  intro c hc
  cases hP : P c with
  | false => rfl
  | true => exact absurd h (msk_ne hc hP)
theorem nD_none {n : Nat} (h : n < 2 ^ 31) : (nD n = -2) = (n = 0) := by
  unfold nD
  by_cases hn : n = 0
  · rw [if_pos hn]; exact propext ⟨fun _ => hn, fun _ => rfl⟩
  · rw [if_neg hn]; exact propext ⟨fun q => absurd q (nI_m2 (by omega)), fun q => absurd q hn⟩
def figM (T : tT) (i : Nat) : Nat → Bool := fun c => sty T c && (T 1 i == 0 || T 1 i == c + 1)
theorem e0_figuredChords (l : Launch) (z : st_T) (T : tT) (hW : TW T) (hS : RS z T) {i : Nat} (hi : i < 16) : ri_Ev l y0_figuredChords w0_figuredChords r0_figuredChords 0 0 [.ref 17, .int (nI i)] (st_h z) (ri_is (nI (msk (figM T i) 13)) (st_h z)) := by
  refine ri_ev (t0_figuredChords l _) rfl rfl rfl (Nat.le_of_ble_eq_true rfl) rfl (z0_figuredChords l _) (fun J hJ => ?_)
  have hf := (hW.2.2.2.2.1 i hi).1
  have e : z.2.1 3 (nI i).toNatClampNeg = nD (T 1 i) := by rw [cl31 (by omega)]; exact (hS.2.1 i hi).1
  refine ri_run_ok hJ [] 60 0 0 0 _ _ _ ?_
  refine ⟨vp_in_nI hi (by decide), fun c => ⟨?_, rfl⟩, fun c => ⟨?_, rfl⟩⟩
  · have c : ¬ z.2.1 3 (nI i).toNatClampNeg = -2 := c
    rw [e, nD_none (by omega)] at c
    show some (Value.int (z.1 1 1 &&& ((1 : Int32) <<< (z.2.1 3 (nI i).toNatClampNeg &&& 31)))) = _
    rw [e, hS.2.2.2.2.2, show nD (T 1 i) = nI (T 1 i - 1) by unfold nD; rw [if_neg c], bit_shl (by omega), nx_and, msk_one (f := T 1 i - 1) (n := 13) (by omega), msk_and]
    rw [msk_cong (Q := figM T i) (fun c' hc' => ?_)]
    unfold figM
    by_cases h : c' = T 1 i - 1
    · rw [eq_b h, show (T 1 i == c' + 1) = true from eq_b (by omega)]; simp
    · rw [ne_b h, show (T 1 i == c' + 1) = false from ne_b (by omega), show (T 1 i == 0) = false from ne_b c]; simp
  · have c : z.2.1 3 (nI i).toNatClampNeg = -2 := Decidable.not_not.mp c
    rw [e, nD_none (by omega)] at c
    show some (Value.int (z.1 1 1)) = _
    rw [hS.2.2.2.2.2, msk_cong (Q := figM T i) (fun c' hc' => ?_)]
    unfold figM
    rw [c]; simp
def lastP (T : tT) (i : Nat) : Bool := i + 1 == T 8 2
theorem e0_isLastN (l : Launch) (z : st_T) (T : tT) (hW : TW T) (hS : RS z T) {i : Nat} (hi : i < 16) : ri_Ev l y0_isLast w0_isLast r0_isLast 0 0 [.ref 17, .int (nI i)] (st_h z) (ri_is (zb (lastP T i)) (st_h z)) := by
  have h := e0_isLast l z (nI i)
  have hn := hW.1
  have e : decide (nI i = z.1 1 0 - 1) = lastP T i := by
    rw [hS.2.2.2.2.1, show (1 : Int32) = nI 1 from rfl, pk_sub hn.1]
    unfold lastP
    by_cases hh : i + 1 = T 8 2
    · rw [eq_b hh]
      exact decide_eq_true (by rw [show i = T 8 2 - 1 by omega])
    · rw [ne_b hh]
      exact decide_eq_false (fun q => by rw [nI_eq (by omega) (by omega)] at q; omega)
  rw [e] at h
  exact h
def r6 (T : tT) (i : Nat) : Nat → Bool := fun c => if lastP T i = true then c == 0 else if T 3 i = 1 then (c == 0 || (c == 4 || c == 5)) else true
def r6v (T : tT) (i : Nat) : Int32 := if lastP T i = true then 1 else if T 3 i = 1 then 49 else -1
theorem r6_and (P : Nat → Bool) (T : tT) (i : Nat) : nI (msk P 13) &&& r6v T i = nI (msk (fun c => P c && r6 T i c) 13) := by
  unfold r6v r6
  by_cases h : lastP T i = true
  · rw [if_pos h, show (1 : Int32) = nI (msk (fun c => c == 0) 13) by decide +kernel, nx_and, msk_and]
    simp only [if_pos h]
  · rw [if_neg h]
    by_cases h2 : T 3 i = 1
    · rw [if_pos h2, show (49 : Int32) = nI (msk (fun c => (c == 0 || (c == 4 || c == 5))) 13) by decide +kernel, nx_and, msk_and]
      simp only [if_neg h, if_pos h2]
    · rw [if_neg h2, and_m1]
      simp only [if_neg h, if_neg h2, Bool.and_true]
theorem e2_chordsByRule6 (l : Launch) (z : st_T) (T : tT) (hW : TW T) (hS : RS z T) {i : Nat} (hi : i < 16) : ri_Ev l y2_chordsByRule6 w2_chordsByRule6 r2_chordsByRule6 0 0 [.ref 30, .int (nI i)] (st_h z) (ri_is (r6v T i) (st_h z)) := by
  refine ri_ev (t2_chordsByRule6 l _) rfl rfl rfl (Nat.le_of_ble_eq_true rfl) rfl (z2_chordsByRule6 l _) (fun J hJ => ?_)
  have hf := (hW.2.2.2.2.1 i hi).2.2
  have e : z.2.1 5 (nI i).toNatClampNeg = nI (T 3 i) := by rw [cl31 (by omega)]; exact (hS.2.1 i hi).2.2
  refine ri_run_ok hJ [] 60 0 0 0 _ _ _ ?_
  refine ⟨_, e0_isLastN l z T hW hS hi, ?_⟩
  rintro r h' ⟨rfl, rfl⟩
  refine ⟨fun c => ⟨vp_in_nI hi (by decide), fun d => ⟨?_, rfl⟩, fun d => ⟨?_, rfl⟩⟩, fun c => ⟨?_, rfl⟩⟩
  · have d : z.2.1 5 (nI i).toNatClampNeg = 0 := d
    rw [e, nk_eq (k := 0) (b := 0) rfl (by omega) (by decide)] at d
    unfold r6v
    rw [zb_0.mp c, if_neg (by decide), if_neg (by omega)]
  · have d : ¬ z.2.1 5 (nI i).toNatClampNeg = 0 := d
    rw [e, nk_eq (k := 0) (b := 0) rfl (by omega) (by decide)] at d
    unfold r6v
    rw [zb_0.mp c, if_neg (by decide), if_pos (by omega)]
  · unfold r6v
    rw [if_pos (zb_1.mp c)]
def basM (T : tT) (i p : Nat) : Nat → Bool := fun c => (if T 2 i = 0 then decide (tmof T c p < 4) else tmem T c (T 2 i - 1) == p % 12) && (if lastP T i = true then tmem T c 0 == p % 12 else true)
theorem e2_bassChords (l : Launch) (z : st_T) (T : tT) (hW : TW T) (hS : RS z T) (hR : RH z T) {i p : Nat} (hi : i < 16) (hp : p < 200) : ri_Ev l y2_bassChords w2_bassChords r2_bassChords 0 0 [.ref 30, .int (nI i), .int (nI p)] (st_h z) (ri_is (nI (msk (basM T i p) 13)) (st_h z)) := by
  refine ri_ev (t2_bassChords l _) rfl rfl rfl (Nat.le_of_ble_eq_true rfl) rfl (z2_bassChords l _) (fun J hJ => ?_)
  have hf := (hW.2.2.2.2.1 i hi).2.1
  have e : z.2.1 4 (nI i).toNatClampNeg = nD (T 2 i) := by rw [cl31 (by omega)]; exact (hS.2.1 i hi).2.1
  have k19 : ∀ (Q : Nat → Bool), (∀ c, c < 13 → Q c = (if T 2 i = 0 then decide (tmof T c p < 4) else tmem T c (T 2 i - 1) == p % 12)) → ∀ o, J 19 0 0 [some (.ref 30), some (.int (nI i)), some (.int (nI p)), o, none] [.int (nI (msk Q 13))] (st_h z) := by
    intro Q hQ o
    refine ri_go hJ [] 60 19 rfl ?_
    refine ⟨_, e0_isLastN l z T hW hS hi, ?_⟩
    rintro r h' ⟨rfl, rfl⟩
    refine ⟨fun c => ⟨?_, rfl⟩, fun c => ⟨_, e1_chordsWithMember l z T hR (k := 0) (by decide) hp, ?_⟩⟩
    · show some (Value.int (nI (msk Q 13))) = _
      rw [msk_cong (Q := basM T i p) (fun c' hc' => ?_)]
      unfold basM
      rw [hQ c' hc', zb_0.mp c]; simp
    · rintro r h' ⟨rfl, rfl⟩
      refine ⟨?_, rfl⟩
      show some (Value.int (nI (msk Q 13) &&& nI _)) = _
      rw [nx_and, msk_and, msk_cong (Q := basM T i p) (fun c' hc' => ?_)]
      unfold basM
      rw [hQ c' hc', if_pos (zb_1.mp c)]
  refine ri_run_ok hJ [19] 60 0 0 0 _ _ _ ?_
  refine ⟨vp_in_nI hi (by decide), fun c => ?_, fun c => ⟨_, e1_chordsWith l z T hR hp, ?_⟩⟩
  · have c : ¬ z.2.1 4 (nI i).toNatClampNeg = -2 := c
    rw [e, nD_none (by omega)] at c
    have em := e1_chordsWithMember l z T hR (k := T 2 i - 1) (p := p) (by omega) hp
    rw [show nI (T 2 i - 1) = z.2.1 4 (nI i).toNatClampNeg by rw [e]; unfold nD; rw [if_neg c]] at em
    refine ⟨_, em, ?_⟩
    rintro r h' ⟨rfl, rfl⟩
    exact k19 _ (fun c' _ => by rw [if_neg c]) _
  · rintro r h' ⟨rfl, rfl⟩
    have c : z.2.1 4 (nI i).toNatClampNeg = -2 := Decidable.not_not.mp c
    rw [e, nD_none (by omega)] at c
    exact k19 _ (fun c' _ => by rw [if_pos c]) _
def gl (T : tT) (c : Nat) : Bool := c == 4 || (c == 6 || (c == 7 || (c == 2 && T 8 1 == 0)))
theorem e1_guardsLeading (l : Launch) (z : st_T) (T : tT) (hW : TW T) (hR : RH z T) {c : Nat} (hc : c < 13) : ri_Ev l y1_guardsLeading w1_guardsLeading r1_guardsLeading 0 0 [.ref 25, .int (nI c)] (st_h z) (ri_is (zb (gl T c)) (st_h z)) := by
  refine ri_ev (t1_guardsLeading l _) rfl rfl rfl (Nat.le_of_ble_eq_true rfl) rfl (z1_guardsLeading l _) (fun J hJ => ?_)
  have hm := hW.2.2.1
  have k15 : gl T c = true → J 15 0 0 [some (.ref 25), some (.int (nI c))] [] (st_h z) := by
    intro e
    refine ri_go hJ [] 60 15 rfl ?_
    exact ⟨rfl, by rw [e]; rfl, rfl⟩
  have k17 : gl T c = false → J 17 0 0 [some (.ref 25), some (.int (nI c))] [] (st_h z) := by
    intro e
    refine ri_go hJ [] 60 17 rfl ?_
    exact ⟨rfl, by rw [e]; rfl, rfl⟩
  refine ri_run_ok hJ [15, 17] 60 0 0 0 _ _ _ ?_
  refine ⟨fun a => k15 ?_, fun a => ⟨fun b => k15 ?_, fun b => ⟨fun d => k15 ?_, fun d => ⟨fun g => k17 ?_, fun g => ⟨fun q => k17 ?_, fun q => k15 ?_⟩⟩⟩⟩⟩
  · have a : nI c = 4 := a
    rw [nk_eq (k := 4) (b := 4) rfl (by omega) (by decide)] at a
    rw [a]; rfl
  · have b : nI c = 6 := b
    rw [nk_eq (k := 6) (b := 6) rfl (by omega) (by decide)] at b
    rw [b]; rfl
  · have d : nI c = 7 := d
    rw [nk_eq (k := 7) (b := 7) rfl (by omega) (by decide)] at d
    rw [d]; rfl
  · have a : ¬ nI c = 4 := a
    have b : ¬ nI c = 6 := b
    have d : ¬ nI c = 7 := d
    have g : ¬ nI c = 2 := g
    rw [nk_eq (k := 4) (b := 4) rfl (by omega) (by decide)] at a
    rw [nk_eq (k := 6) (b := 6) rfl (by omega) (by decide)] at b
    rw [nk_eq (k := 7) (b := 7) rfl (by omega) (by decide)] at d
    rw [nk_eq (k := 2) (b := 2) rfl (by omega) (by decide)] at g
    unfold gl
    rw [ne_b a, ne_b b, ne_b d, ne_b g]; rfl
  · have a : ¬ nI c = 4 := a
    have b : ¬ nI c = 6 := b
    have d : ¬ nI c = 7 := d
    have q : ¬ z.1 9 1 = 0 := q
    rw [nk_eq (k := 4) (b := 4) rfl (by omega) (by decide)] at a
    rw [nk_eq (k := 6) (b := 6) rfl (by omega) (by decide)] at b
    rw [nk_eq (k := 7) (b := 7) rfl (by omega) (by decide)] at d
    rw [hR.2.1, nk_eq (k := 0) (b := 0) rfl (by omega) (by decide)] at q
    unfold gl
    rw [ne_b a, ne_b b, ne_b d, ne_b q]; simp
  · have g : nI c = 2 := Decidable.not_not.mp g
    have q : z.1 9 1 = 0 := Decidable.not_not.mp q
    rw [nk_eq (k := 2) (b := 2) rfl (by omega) (by decide)] at g
    rw [hR.2.1, nk_eq (k := 0) (b := 0) rfl (by omega) (by decide)] at q
    unfold gl
    rw [g, q]; rfl
