/-! THE REFERENCE: which choices findStates meets -/
def VP (c a b d e c' : Nat) (p : Nat → Nat) : Prop := c' < c ∨ (c' = c ∧ (p 0 < a ∨ (p 0 = a ∧ (p 1 < b ∨ (p 1 = b ∧ (p 2 < d ∨ (p 2 = d ∧ p 3 < e)))))))
def EL (T : tT) (i : Nat) (b0 : Bool) (c' : Nat) (p : Nat → Nat) : Prop := (∀ v, v < 4 → (T 6 v ≤ p v ∧ p v ≤ T 7 v) ∧ mhv T i v (p v) c' = true) ∧ (b0 = false → ¬ bk3 p) ∧ figM T i c' = true ∧ c' < 13
theorem nbk3 {p : Nat → Nat} (h : ¬ bk3 p) : p 1 ≤ p 0 ∧ p 0 ≤ p 1 + 12 ∧ p 2 ≤ p 1 ∧ p 1 ≤ p 2 + 12 ∧ p 3 ≤ p 2 ∧ p 2 ≤ p 3 + 19 := by
  have h0 : ¬ (p 0 < p 1 ∨ p 1 + 12 < p 0) := fun q => h ⟨0, by decide, q⟩
  have h1 : ¬ (p 1 < p 2 ∨ p 2 + 12 < p 1) := fun q => h ⟨1, by decide, q⟩
  have h2 : ¬ (p 2 < p 3 ∨ p 3 + 19 < p 2) := fun q => h ⟨2, by decide, q⟩
  omega
section VPS
variable {T : tT} {i : Nat} {b0 : Bool} {c' : Nat} {p : Nat → Nat}
theorem EL_n (hW : TW T) (h : EL T i b0 c' p) : (36 ≤ p 0 ∧ T 6 0 ≤ p 0 ∧ p 0 ≤ T 7 0) ∧ (36 ≤ p 1 ∧ T 6 1 ≤ p 1 ∧ p 1 ≤ T 7 1) ∧ (36 ≤ p 2 ∧ T 6 2 ≤ p 2 ∧ p 2 ≤ T 7 2) ∧ (36 ≤ p 3 ∧ T 6 3 ≤ p 3 ∧ p 3 ≤ T 7 3) := by
  have hr := hW.2.2.2.2.2.2.2.1
  have a0 := (h.1 0 (by decide)).1
  have a1 := (h.1 1 (by decide)).1
  have a2 := (h.1 2 (by decide)).1
  have a3 := (h.1 3 (by decide)).1
  have r0 := hr 0 (by decide)
  have r1 := hr 1 (by decide)
  have r2 := hr 2 (by decide)
  have r3 := hr 3 (by decide)
  omega
theorem vp_c1 (hW : TW T) (h : EL T i b0 c' p) {c : Nat} (hf : figM T i c = false) : VP (c + 1) 0 0 0 0 c' p ↔ VP c 0 0 0 0 c' p := by
  have n := EL_n hW h
  have hc : ¬ c' = c := fun e => by have := h.2.2.1; rw [e, hf] at this; cases this
  unfold VP; omega
theorem vp_a0 (hW : TW T) (h : EL T i b0 c' p) {c : Nat} : VP c (T 6 0) 0 0 0 c' p ↔ VP c 0 0 0 0 c' p := by
  have n := EL_n hW h
  unfold VP; omega
theorem vp_a1 (hW : TW T) (h : EL T i b0 c' p) {c a : Nat} (ha : T 7 0 < a) : VP (c + 1) 0 0 0 0 c' p ↔ VP c a 0 0 0 c' p := by
  have n := EL_n hW h
  unfold VP; omega
theorem lov_le (hW : TW T) (h : EL T i b0 c' p) : lov T b0 1 12 (p 0) ≤ p 1 ∧ lov T b0 2 12 (p 1) ≤ p 2 ∧ lov T b0 3 19 (p 2) ≤ p 3 ∧ p 1 ≤ hiv T b0 1 (p 0) ∧ p 2 ≤ hiv T b0 2 (p 1) ∧ p 3 ≤ hiv T b0 3 (p 2) := by
  have n := EL_n hW h
  unfold lov hiv
  cases hb : b0 with
  | true => simp only [if_true]; omega
  | false =>
    have s := nbk3 (h.2.1 hb)
    simp only [Bool.false_eq_true, if_false]; omega
theorem vp_b0 (hW : TW T) (h : EL T i b0 c' p) {c a : Nat} : VP c a (lov T b0 1 12 a) 0 0 c' p ↔ VP c a 0 0 0 c' p := by
  have n := EL_n hW h
  have s := lov_le hW h
  by_cases e : p 0 = a
  · subst e
    unfold VP; omega
  · unfold VP; omega
theorem vp_b1 (hW : TW T) (h : EL T i b0 c' p) {c a b : Nat} (hx : hiv T b0 1 a < b ∨ mhv T i 0 a c = false) : VP c (a + 1) 0 0 0 c' p ↔ VP c a b 0 0 c' p := by
  have n := EL_n hW h
  have s := lov_le hW h
  by_cases e : p 0 = a ∧ c' = c
  · obtain ⟨rfl, rfl⟩ := e
    rcases hx with hx | hx
    · unfold VP; omega
    · have := (h.1 0 (by decide)).2
      rw [hx] at this; cases this
  · unfold VP; omega
theorem vp_d0 (hW : TW T) (h : EL T i b0 c' p) {c a b : Nat} : VP c a b (lov T b0 2 12 b) 0 c' p ↔ VP c a b 0 0 c' p := by
  have n := EL_n hW h
  have s := lov_le hW h
  by_cases e : p 1 = b
  · subst e
    unfold VP; omega
  · unfold VP; omega
theorem vp_d1 (hW : TW T) (h : EL T i b0 c' p) {c a b d : Nat} (hx : hiv T b0 2 b < d ∨ mhv T i 1 b c = false) : VP c a (b + 1) 0 0 c' p ↔ VP c a b d 0 c' p := by
  have n := EL_n hW h
  have s := lov_le hW h
  by_cases e : p 1 = b ∧ c' = c
  · obtain ⟨rfl, rfl⟩ := e
    rcases hx with hx | hx
    · unfold VP; omega
    · have := (h.1 1 (by decide)).2
      rw [hx] at this; cases this
  · unfold VP; omega
theorem vp_e0 (hW : TW T) (h : EL T i b0 c' p) {c a b d : Nat} : VP c a b d (lov T b0 3 19 d) c' p ↔ VP c a b d 0 c' p := by
  have n := EL_n hW h
  have s := lov_le hW h
  by_cases e : p 2 = d
  · subst e
    unfold VP; omega
  · unfold VP; omega
theorem vp_e1 (hW : TW T) (h : EL T i b0 c' p) {c a b d e : Nat} (hx : hiv T b0 3 d < e ∨ mhv T i 2 d c = false) : VP c a b (d + 1) 0 c' p ↔ VP c a b d e c' p := by
  have n := EL_n hW h
  have s := lov_le hW h
  by_cases q : p 2 = d ∧ c' = c
  · obtain ⟨rfl, rfl⟩ := q
    rcases hx with hx | hx
    · unfold VP; omega
    · have := (h.1 2 (by decide)).2
      rw [hx] at this; cases this
  · unfold VP; omega
/-- one step of the bass: the one choice a b d e is new -/
theorem vp_1 {c a b d e : Nat} (hne : ¬ (c' = c ∧ p 0 = a ∧ p 1 = b ∧ p 2 = d ∧ p 3 = e)) : VP c a b d (e + 1) c' p ↔ VP c a b d e c' p := by
  unfold VP; omega
theorem vp_all (hc : c' < 13) : VP 13 0 0 0 0 c' p := Or.inl hc
theorem vp_none (hW : TW T) (h : EL T i b0 c' p) : ¬ VP 0 0 0 0 0 c' p := by
  have n := EL_n hW h
  unfold VP; omega
end VPS
-- the rules look at four pitches only
theorem p4_eq {p : Nat → Nat} {a b d e : Nat} (h0 : p 0 = a) (h1 : p 1 = b) (h2 : p 2 = d) (h3 : p 3 = e) : ∀ v, v < 4 → p v = p4 a b d e v := by
  intro v hv
  match v, hv with
  | 0, _ => exact h0
  | 1, _ => exact h1
  | 2, _ => exact h2
  | 3, _ => exact h3
  | v + 4, hv => exact absurd hv (by omega)
theorem bk3_c {p q : Nat → Nat} (h : ∀ v, v < 4 → p v = q v) : bk3 p ↔ bk3 q := by
  constructor
  · rintro ⟨v, hv, x⟩
    rw [h v (by omega), h (v + 1) (by omega)] at x
    exact ⟨v, hv, x⟩
  · rintro ⟨v, hv, x⟩
    rw [← h v (by omega), ← h (v + 1) (by omega)] at x
    exact ⟨v, hv, x⟩
theorem bk4_c {T : tT} {c : Nat} {p q : Nat → Nat} (h : ∀ v, v < 4 → p v = q v) : bk4 T c p ↔ bk4 T c q := by
  have e : ∀ k, (∀ v, v < 4 → ¬ tmof T c (p v) = k) ↔ (∀ v, v < 4 → ¬ tmof T c (q v) = k) := fun k => ⟨fun f v hv => by rw [← h v hv]; exact f v hv, fun f v hv => by rw [h v hv]; exact f v hv⟩
  unfold bk4
  rw [e 0, e 1, e 3]
theorem bk5_c {T : tT} {c : Nat} {p q : Nat → Nat} (h : ∀ v, v < 4 → p v = q v) : bk5 T c p ↔ bk5 T c q := by
  unfold bk5
  rw [dcn_cong (f := fun v => tmof T c (p v) == 3) (g := fun v => tmof T c (q v) == 3) (fun v hv => by show (tmof T c (p v) == 3) = (tmof T c (q v) == 3); rw [h v hv]), dcn_cong (f := fun v => p v % 12 == ldc T) (g := fun v => q v % 12 == ldc T) (fun v hv => by show (p v % 12 == ldc T) = (q v % 12 == ldc T); rw [h v hv])]
theorem bk6_c {T : tT} {i c : Nat} {p q : Nat → Nat} (h : ∀ v, v < 4 → p v = q v) : bk6 T i c p ↔ bk6 T i c q := by
  unfold bk6
  rw [h 3 (by decide)]
theorem r36_0 : ∀ b3 b4 b5 b6 : Bool, r36 b3 b4 b5 b6 = 0 → b3 = false ∧ b4 = false ∧ b5 = false ∧ b6 = false := by decide
theorem r36_n : ∀ b3 b4 b5 b6 : Bool, ¬ r36 b3 b4 b5 b6 = 0 → b3 = true ∨ b4 = true ∨ b5 = true ∨ b6 = true := by decide
-- the states of a place
theorem stB_srt (T : tT) (i B : Nat) : (stB T i B).Pairwise (· < ·) := List.Pairwise.filter _ List.pairwise_lt_range
theorem stL_srt (T : tT) (i : Nat) : (stL T i).Pairwise (· < ·) := stB_srt T i _
theorem stB_mem {T : tT} {i B x : Nat} : x ∈ stB T i B ↔ x < B ∧ okS T i x = true := by
  unfold stB
  rw [List.mem_filter, List.mem_range]
theorem stL_mem {T : tT} {i x : Nat} : x ∈ stL T i ↔ okS T i x = true := by
  unfold stL
  rw [stB_mem]
  exact ⟨fun h => h.2, fun h => ⟨(okS_all h).1, h⟩⟩
theorem filt_ins {X : List Nat} (hs : X.Pairwise (· < ·)) {x : Nat} (hx : x ∈ X) {P P' : Nat → Bool} (h0 : P x = false) (h1 : P' x = true) (he : ∀ y ∈ X, ¬ y = x → P' y = P y) : ∃ A B, X.filter P = A ++ B ∧ X.filter P' = A ++ x :: B ∧ (∀ y ∈ A, y < x) ∧ ∀ y ∈ B, x < y := by
  obtain ⟨U, W, rfl⟩ := List.append_of_mem hx
  rw [List.pairwise_append] at hs
  obtain ⟨s1, s2, s3⟩ := hs
  rw [List.pairwise_cons] at s2
  have hU : ∀ y ∈ U, y < x := fun y hy => s3 y hy x (List.mem_cons_self ..)
  have hW : ∀ y ∈ W, x < y := fun y hy => s2.1 y hy
  refine ⟨U.filter P, W.filter P, ?_, ?_, fun y hy => hU y (List.mem_filter.mp hy).1, fun y hy => hW y (List.mem_filter.mp hy).1⟩
  · rw [List.filter_append, List.filter_cons, h0]; rfl
  · rw [List.filter_append, List.filter_cons, h1]
    have e1 : U.filter P' = U.filter P := List.filter_congr (fun y hy => he y (List.mem_append_left _ hy) (by have := hU y hy; omega))
    have e2 : W.filter P' = W.filter P := List.filter_congr (fun y hy => he y (List.mem_append_right _ (List.mem_cons_of_mem _ hy)) (by have := hW y hy; omega))
    rw [e1, e2]; rfl
-- what okS asks, as the reference asks it
theorem lh_m {T : tT} {i v q : Nat} (ht : T 6 v ≤ T 7 v) : (lowN T i v ≤ q ∧ q ≤ highN T i v) ↔ ((T 6 v ≤ q ∧ q ≤ T 7 v) ∧ (T 0 (4 * i + v) = 0 ∨ T 0 (4 * i + v) = q)) := by
  unfold lowN highN
  by_cases h : T 0 (4 * i + v) = 0
  · rw [if_pos h, if_pos h]; exact ⟨fun x => ⟨x, Or.inl h⟩, fun x => x.1⟩
  · rw [if_neg h, if_neg h]
    by_cases h1 : T 6 v < T 0 (4 * i + v)
    · by_cases h2 : T 0 (4 * i + v) < T 7 v
      · rw [if_pos h1, if_pos h2]; omega
      · rw [if_pos h1, if_neg h2]; omega
    · by_cases h2 : T 0 (4 * i + v) < T 7 v
      · rw [if_neg h1, if_pos h2]; omega
      · rw [if_neg h1, if_neg h2]; omega
theorem mhv_iff {T : tT} {i v q c : Nat} : mhv T i v q c = true ↔ (T 0 (4 * i + v) = 0 ∨ T 0 (4 * i + v) = q) ∧ tmof T c q < 4 ∧ (v < 3 ∨ T 2 i = 0 ∨ T 2 i = tmof T c q + 1) := by
  unfold mhv
  simp only [Bool.and_eq_true, Bool.or_eq_true, beq_iff_eq, decide_eq_true_eq]
theorem vpA_m {T : tT} (hW : TW T) {i c v q : Nat} (hv : v < 4) : vpA T i c v q = true ↔ (T 6 v ≤ q ∧ q ≤ T 7 v) ∧ mhv T i v q c = true := by
  have ht := (hW.2.2.2.2.2.2.2.1 v hv).2.1
  have e := lh_m (T := T) (i := i) (v := v) (q := q) ht
  rw [mhv_iff]
  unfold vpA snd
  simp only [Bool.and_eq_true, Bool.or_eq_true, beq_iff_eq, decide_eq_true_eq, Bool.not_eq_true', beq_eq_false_iff_ne]
  constructor
  · rintro ⟨h1, h2, h3, h4⟩
    have := e.mp ⟨h1, h2⟩
    refine ⟨this.1, this.2, h3, ?_⟩
    rcases h4 with h4 | h4
    · left; have : ¬ v = 3 := h4; omega
    · exact Or.inr h4
  · rintro ⟨h1, h2, h3, h4⟩
    have := e.mpr ⟨h1, h2⟩
    refine ⟨this.1, this.2, h3, ?_⟩
    rcases h4 with h4 | h4
    · left; show ¬ v = 3; omega
    · exact Or.inr h4
theorem cntc_dcn (x q : Nat) : cntc x q = dcn (fun v => pit x v % 12 == q) 4 := by
  rw [dcn4]
  unfold cntc
  simp only [beq_iff_eq]
theorem k45_m {T : tT} (hW : TW T) {x : Nat} (hc : chd x < 13) : k45 T x = true ↔ ¬ bk4 T (chd x) (pit x) ∧ ¬ bk5 T (chd x) (pit x) := by
  have h0 := hW.2.1
  have m0 := tmem_rt T (chd x) 0 hc (by decide)
  have m1 := tmem_rt T (chd x) 1 hc (by decide)
  have c0 := cntm_dcn (T := T) (x := x) (k := 0) h0 hc (by decide) (by omega)
  have c1 := cntm_dcn (T := T) (x := x) (k := 1) h0 hc (by decide) (by omega)
  have dz : ∀ k, dcn (fun v => tmof T (chd x) (pit x v) == k) 4 = 0 ↔ ∀ v, v < 4 → ¬ tmof T (chd x) (pit x v) = k := by
    intro k
    rw [dcn4_0]
    exact ⟨fun h v hv q => (by have := h v hv; rw [eq_b q] at this; cases this), fun h v hv => ne_b (h v hv)⟩
  have hl := cntc_dcn x (ldc T)
  unfold k45 bk4 bk5
  rw [c0, c1, hl, ← dz 0, ← dz 1, ← dz 3]
  simp only [Bool.and_eq_true, Bool.or_eq_true, Bool.not_eq_true', beq_iff_eq, beq_eq_false_iff_ne, ne_eq, decide_eq_true_eq]
  by_cases h9 : tmem T (chd x) 3 = 99
  · have z3 : dcn (fun v => tmof T (chd x) (pit x v) == 3) 4 = 0 := by
      rw [dz]
      intro v hv q
      have := tmof_mem (T := T) (c := chd x) (p := pit x v) (by omega)
      rw [q, h9] at this
      have : pit x v % 12 < 12 := Nat.mod_lt _ (by decide)
      omega
    rw [z3]
    cases hg : gl T (chd x) with
    | true => simp [h9]; omega
    | false => simp [h9]
  · have c3 := cntm_dcn (T := T) (x := x) (k := 3) h0 hc (by decide) h9
    rw [c3]
    cases hg : gl T (chd x) with
    | true => simp [h9]; omega
    | false => simp [h9]; omega
theorem okS_m {T : tT} (hW : TW T) {i x : Nat} (hi : i < T 8 2) : okS T i x = true ↔ x < 2 ^ 28 ∧ EL T i false (chd x) (pit x) ∧ ¬ bk4 T (chd x) (pit x) ∧ ¬ bk5 T (chd x) (pit x) ∧ ¬ bk6 T i (chd x) (pit x) := by
  have hn := hW.1
  have h0 := hW.2.1
  have h2 := (hW.2.2.2.2.1 i (by omega)).2.1
  have h3 := (hW.2.2.2.2.1 i (by omega)).2.2
  have hr := hW.2.2.2.2.2.2.2.1
  have L : ∀ v, v < 4 → ((lowN T i v ≤ pit x v ∧ pit x v ≤ highN T i v) ↔ ((T 6 v ≤ pit x v ∧ pit x v ≤ T 7 v) ∧ (T 0 (4 * i + v) = 0 ∨ T 0 (4 * i + v) = pit x v))) := fun v hv => lh_m (hr v hv).2.1
  by_cases hc : chd x < 13
  · have hk := k45_m hW hc
    have i0 := tmof_iff h0 (p := pit x 3) (k := 0) hc (by decide)
    have hm : pit x 3 % 12 < 12 := Nat.mod_lt _ (by decide)
    have bas : basM T i (pit x 3) (chd x) = true ↔ (tmof T (chd x) (pit x 3) < 4 ∧ (T 2 i = 0 ∨ T 2 i = tmof T (chd x) (pit x 3) + 1)) ∧ (lastP T i = true → tmof T (chd x) (pit x 3) = 0) := by
      unfold basM
      rw [Bool.and_eq_true]
      refine and_congr ?_ ?_
      · by_cases q : T 2 i = 0
        · rw [if_pos q, decide_eq_true_iff]; exact ⟨fun h => ⟨h, Or.inl q⟩, fun h => h.1⟩
        · have it := tmof_iff h0 (p := pit x 3) (k := T 2 i - 1) hc (by omega)
          rw [if_neg q, beq_iff_eq, ← it]
          constructor
          · intro h; exact ⟨by omega, Or.inr (by omega)⟩
          · rintro ⟨h, h'⟩; omega
      · cases hl : lastP T i with
        | true => rw [if_pos rfl, beq_iff_eq, ← i0]; exact ⟨fun h _ => h, fun h => h rfl⟩
        | false => rw [if_neg (by decide)]; exact ⟨fun _ h => (by cases h), fun _ => rfl⟩
    have s6 : (r6 T i (chd x) = true ∧ (lastP T i = true → tmof T (chd x) (pit x 3) = 0)) ↔ ¬ bk6 T i (chd x) (pit x) := by
      unfold r6 bk6
      cases hl : lastP T i with
      | true =>
        rw [if_pos rfl, beq_iff_eq]
        constructor
        · rintro ⟨a, b⟩ (h | h)
          · have := h.2; rw [a] at this; cases this
          · rcases h.2 with q | q
            · exact q a
            · exact q (b rfl)
        · intro h
          refine ⟨Decidable.byContradiction fun q => h (Or.inr ⟨rfl, Or.inl q⟩), fun _ => Decidable.byContradiction fun q => h (Or.inr ⟨rfl, Or.inr q⟩)⟩
      | false =>
        rw [if_neg (by decide)]
        by_cases q : T 3 i = 1
        · rw [if_pos q]
          constructor
          · rintro ⟨a, b⟩ (h | h)
            · have := h.2
              unfold frm3 at this
              rw [a] at this; cases this
            · cases h.1
          · intro h
            refine ⟨?_, fun h => (by cases h)⟩
            cases e : frm3 (chd x) with
            | true => exact e
            | false => exact absurd (Or.inl ⟨q, e⟩) h
        · rw [if_neg q]
          refine ⟨fun _ h => ?_, fun _ => ⟨rfl, fun h => (by cases h)⟩⟩
          rcases h with h | h
          · exact q h.1
          · cases h.1
    have hs : spc x = true ↔ ¬ bk3 (pit x) := by
      unfold spc
      simp only [Bool.and_eq_true, decide_eq_true_eq]
      constructor
      · rintro ⟨a1, a2, a3, a4, a5, a6⟩ ⟨v, hv, h⟩
        match v, hv, h with
        | 0, _, h => have h : pit x 0 < pit x 1 ∨ pit x 1 + 12 < pit x 0 := h; omega
        | 1, _, h => have h : pit x 1 < pit x 2 ∨ pit x 2 + 12 < pit x 1 := h; omega
        | 2, _, h => have h : pit x 2 < pit x 3 ∨ pit x 3 + 19 < pit x 2 := h; omega
        | v + 3, hv, _ => exact absurd hv (by omega)
      · intro h
        have := nbk3 h
        omega
    unfold okS EL rgv has
    simp only [Bool.and_eq_true, decide_eq_true_eq]
    rw [L 0 (by decide), L 1 (by decide), L 2 (by decide), L 3 (by decide), hs, hk, bas]
    constructor
    · rintro ⟨b1, b2, g0, g1, g2, g3, b3, ⟨b4, b5⟩, t0, t1, t2, ⟨⟨t3, b6⟩, b7⟩, b8, b9⟩
      refine ⟨b1, ⟨?_, fun _ => b3, b4, b2⟩, b8, b9, s6.mp ⟨b5, b7⟩⟩
      intro v hv
      rw [mhv_iff]
      match v, hv with
      | 0, _ => exact ⟨g0.1, g0.2, t0, Or.inl (by decide)⟩
      | 1, _ => exact ⟨g1.1, g1.2, t1, Or.inl (by decide)⟩
      | 2, _ => exact ⟨g2.1, g2.2, t2, Or.inl (by decide)⟩
      | 3, _ => exact ⟨g3.1, g3.2, t3, Or.inr b6⟩
      | v + 4, hv => exact absurd hv (by omega)
    · rintro ⟨b1, ⟨e1, b3, b4, b2⟩, b8, b9, b6⟩
      have q6 := s6.mpr b6
      have g0 := e1 0 (by decide)
      have g1 := e1 1 (by decide)
      have g2 := e1 2 (by decide)
      have g3 := e1 3 (by decide)
      rw [mhv_iff] at g0 g1 g2 g3
      refine ⟨b1, b2, ⟨g0.1, g0.2.1⟩, ⟨g1.1, g1.2.1⟩, ⟨g2.1, g2.2.1⟩, ⟨g3.1, g3.2.1⟩, b3 trivial, ⟨b4, q6.1⟩, g0.2.2.1, g1.2.2.1, g2.2.2.1, ⟨⟨g3.2.2.1, ?_⟩, q6.2⟩, b8, b9⟩
      rcases g3.2.2.2 with h | h
      · exact absurd h (by decide)
      · exact h
  · constructor
    · intro h; exact absurd (okS_all h).2.1 hc
    · rintro ⟨_, h, _⟩; exact absurd h.2.2.2 hc
