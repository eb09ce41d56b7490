/-! StateRules.barring: which of the rules 3 to 6 bar some state that keeps 1 and 2 -/
def CH (T : tT) (i c : Nat) (p : Nat → Nat) : Prop := ∀ v, v < 4 → vpA T i c v (p v) = true
def bk3 (p : Nat → Nat) : Prop := ∃ v, v < 3 ∧ (p v < p (v + 1) ∨ p (v + 1) + wd v < p v)
def bk4 (T : tT) (c : Nat) (p : Nat → Nat) : Prop := (∀ v, v < 4 → ¬ tmof T c (p v) = 0) ∨ (∀ v, v < 4 → ¬ tmof T c (p v) = 1) ∨ (¬ tmem T c 3 = 99 ∧ ∀ v, v < 4 → ¬ tmof T c (p v) = 3)
def bk5 (T : tT) (c : Nat) (p : Nat → Nat) : Prop := 2 ≤ dcn (fun v => tmof T c (p v) == 3) 4 ∨ (gl T c = true ∧ 2 ≤ dcn (fun v => p v % 12 == ldc T) 4)
def bk6 (T : tT) (i c : Nat) (p : Nat → Nat) : Prop := (T 3 i = 1 ∧ frm3 c = false) ∨ (lastP T i = true ∧ (¬ c = 0 ∨ ¬ tmof T c (p 3) = 0))
theorem four {α : Type} {Q : Nat → α → Prop} (h : ∀ v, v < 4 → ∃ a, Q v a) : ∃ f : Nat → α, ∀ v, v < 4 → Q v (f v) := by
  obtain ⟨a0, h0⟩ := h 0 (by decide)
  obtain ⟨a1, h1⟩ := h 1 (by decide)
  obtain ⟨a2, h2⟩ := h 2 (by decide)
  obtain ⟨a3, h3⟩ := h 3 (by decide)
  refine ⟨fun v => match v with
    | 0 => a0
    | 1 => a1
    | 2 => a2
    | _ => a3, fun v hv => ?_⟩
  match v, hv with
  | 0, _ => exact h0
  | 1, _ => exact h1
  | 2, _ => exact h2
  | 3, _ => exact h3
theorem anf_iff {P : Nat → Bool} : ∀ {n v : Nat}, anf P n v = true ↔ ∃ u, v ≤ u ∧ u < v + n ∧ P u = true
  | 0, v => by
    constructor
    · intro h; cases h
    · rintro ⟨u, h1, h2, _⟩; omega
  | n + 1, v => by
    show (P v || anf P n (v + 1)) = true ↔ _
    rw [Bool.or_eq_true, anf_iff]
    constructor
    · rintro (h | ⟨u, h1, h2, h3⟩)
      · exact ⟨v, Nat.le_refl _, by omega, h⟩
      · exact ⟨u, by omega, by omega, h3⟩
    · rintro ⟨u, h1, h2, h3⟩
      by_cases q : u = v
      · left; rw [← q]; exact h3
      · right; exact ⟨u, by omega, by omega, h3⟩
theorem dcn_mono {f g : Nat → Bool} : ∀ {n : Nat}, (∀ v, v < n → f v = true → g v = true) → dcn f n ≤ dcn g n
  | 0, _ => Nat.le_refl _
  | n + 1, h => by
    have ih := dcn_mono (f := f) (g := g) (n := n) (fun v hv => h v (by omega))
    unfold dcn
    by_cases hf : f n = true
    · rw [if_pos hf, if_pos (h n (by omega) hf)]; omega
    · rw [if_neg hf]; split <;> omega
/-- what the survey knows -/
def SK (T : tT) (i c : Nat) (M : Nat → Nat → Bool) (lo hi : Nat → Nat) : Prop := (∀ v, v < 4 → ∀ k, k < 4 → (M v k = true ↔ ∃ p, vpA T i c v p = true ∧ tmof T c p = k)) ∧ (∀ v, v < 4 → vpA T i c v (lo v) = true) ∧ (∀ v, v < 4 → vpA T i c v (hi v) = true) ∧ (∀ v, v < 4 → ∀ p, vpA T i c v p = true → lo v ≤ p ∧ p ≤ hi v)
theorem SK.m {T : tT} {i c : Nat} {M : Nat → Nat → Bool} {lo hi : Nat → Nat} (S : SK T i c M lo hi) : ∀ v, v < 4 → ∀ k, k < 4 → (M v k = true ↔ ∃ p, vpA T i c v p = true ∧ tmof T c p = k) := S.1
theorem SK.l {T : tT} {i c : Nat} {M : Nat → Nat → Bool} {lo hi : Nat → Nat} (S : SK T i c M lo hi) : ∀ v, v < 4 → vpA T i c v (lo v) = true := S.2.1
theorem SK.h {T : tT} {i c : Nat} {M : Nat → Nat → Bool} {lo hi : Nat → Nat} (S : SK T i c M lo hi) : ∀ v, v < 4 → vpA T i c v (hi v) = true := S.2.2.1
theorem SK.b {T : tT} {i c : Nat} {M : Nat → Nat → Bool} {lo hi : Nat → Nat} (S : SK T i c M lo hi) : ∀ v, v < 4 → ∀ p, vpA T i c v p = true → lo v ≤ p ∧ p ≤ hi v := S.2.2.2
theorem msk_only {M : Nat → Bool} {k : Nat} (hk : k < 4) : msk M 4 = 2 ^ k ↔ (M k = true ∧ ∀ j, j < 4 → ¬ j = k → M j = false) := by
  constructor
  · intro e
    have hb : ∀ j, (2 ^ k).testBit j = (decide (j < 4) && M j) := fun j => by rw [← e, msk_bit]
    refine ⟨?_, fun j hj hn => ?_⟩
    · have := hb k
      rw [Nat.testBit_two_pow, decide_eq_true rfl, decide_eq_true hk, Bool.true_and] at this
      exact this.symm
    · have := hb j
      rw [Nat.testBit_two_pow, decide_eq_false (Ne.symm hn), decide_eq_true hj, Bool.true_and] at this
      exact this.symm
  · rintro ⟨h1, h2⟩
    apply Nat.eq_of_testBit_eq
    intro j
    rw [msk_bit, Nat.testBit_two_pow]
    by_cases q : j = k
    · subst q; simp [h1, hk]
    · rw [decide_eq_false (Ne.symm q)]
      by_cases hj : j < 4
      · rw [h2 j hj q]; simp
      · simp [hj]
theorem sk3 {T : tT} {i c : Nat} {M : Nat → Nat → Bool} {lo hi : Nat → Nat} (S : SK T i c M lo hi) : anf (k3 lo hi) 3 0 = true ↔ ∃ p, CH T i c p ∧ bk3 p := by
  rw [anf_iff]
  constructor
  · rintro ⟨v, _, hv, h⟩
    unfold k3 at h
    rw [Bool.or_eq_true, decide_eq_true_eq, decide_eq_true_eq] at h
    rcases h with h | h
    · refine ⟨fun u => if u = v then lo v else if u = v + 1 then hi (v + 1) else lo u, fun u hu => ?_, v, by omega, Or.inl ?_⟩
      · by_cases a : u = v
        · simp only [if_pos a]; rw [a]; exact S.l v (by omega)
        · simp only [if_neg a]
          by_cases b : u = v + 1
          · simp only [if_pos b]; rw [b]; exact S.h _ (by omega)
          · simp only [if_neg b]; exact S.l u hu
      · simp only [if_pos, Nat.succ_ne_self, if_false]; simpa using h
    · refine ⟨fun u => if u = v then hi v else if u = v + 1 then lo (v + 1) else lo u, fun u hu => ?_, v, by omega, Or.inr ?_⟩
      · by_cases a : u = v
        · simp only [if_pos a]; rw [a]; exact S.h v (by omega)
        · simp only [if_neg a]
          by_cases b : u = v + 1
          · simp only [if_pos b]; rw [b]; exact S.l _ (by omega)
          · simp only [if_neg b]; exact S.l u hu
      · simpa using h
  · rintro ⟨p, hp, v, hv, h⟩
    refine ⟨v, Nat.zero_le _, by omega, ?_⟩
    have a := S.b v (by omega) _ (hp v (by omega))
    have b := S.b (v + 1) (by omega) _ (hp (v + 1) (by omega))
    unfold k3
    rw [Bool.or_eq_true, decide_eq_true_eq, decide_eq_true_eq]
    omega
theorem sk_miss {T : tT} {i c : Nat} {M : Nat → Nat → Bool} {lo hi : Nat → Nat} (S : SK T i c M lo hi) {k : Nat} (hk : k < 4) : (!(anf (only M k) 4 0)) = true ↔ ∃ p, CH T i c p ∧ ∀ v, v < 4 → ¬ tmof T c (p v) = k := by
  have ha : ∀ v, v < 4 → (only M k v = true ↔ ∀ p, vpA T i c v p = true → tmof T c p = k) := by
    intro v hv
    unfold only
    rw [beq_iff_eq, msk_only hk]
    constructor
    · rintro ⟨h1, h2⟩ p hp
      have h4 := (vpA_all hp).2.2.1
      cases Nat.decEq (tmof T c p) k with
      | isTrue q => exact q
      | isFalse q =>
        have := h2 _ h4 q
        rw [(S.m v hv _ h4).mpr ⟨p, hp, rfl⟩] at this
        cases this
    · intro h
      refine ⟨(S.m v hv k hk).mpr ⟨lo v, S.l v hv, h _ (S.l v hv)⟩, fun j hj hn => ?_⟩
      cases e : M v j with
      | false => rfl
      | true =>
        obtain ⟨p, hp, ht⟩ := (S.m v hv j hj).mp e
        exact absurd (by rw [← ht]; exact h p hp) hn
  constructor
  · intro h
    have h : anf (only M k) 4 0 = false := by simpa using h
    have hv : ∀ v, v < 4 → ∃ p, vpA T i c v p = true ∧ ¬ tmof T c p = k := by
      intro v hv
      apply Classical.byContradiction
      intro q
      have : only M k v = true := (ha v hv).mpr (fun p hp => Classical.byContradiction (fun r => q ⟨p, hp, r⟩))
      have := (anf_iff (P := only M k) (n := 4) (v := 0)).mpr ⟨v, Nat.zero_le _, by omega, this⟩
      rw [h] at this; cases this
    obtain ⟨f, hf⟩ := four hv
    exact ⟨f, fun v h => (hf v h).1, fun v h => (hf v h).2⟩
  · rintro ⟨p, hp, hn⟩
    cases e : anf (only M k) 4 0 with
    | false => rfl
    | true =>
      obtain ⟨v, _, hv, h⟩ := anf_iff.mp e
      exact absurd ((ha v (by omega)).mp h _ (hp v (by omega))) (hn v (by omega))
theorem sk4 {T : tT} {i c : Nat} {M : Nat → Nat → Bool} {lo hi : Nat → Nat} (S : SK T i c M lo hi) : k4 T M c = true ↔ ∃ p, CH T i c p ∧ bk4 T c p := by
  unfold k4
  rw [Bool.or_eq_true, Bool.or_eq_true, Bool.and_eq_true, sk_miss S (by decide), sk_miss S (by decide), sk_miss S (by decide)]
  constructor
  · rintro (⟨p, h1, h2⟩ | ⟨p, h1, h2⟩ | ⟨h3, p, h1, h2⟩)
    · exact ⟨p, h1, Or.inl h2⟩
    · exact ⟨p, h1, Or.inr (Or.inl h2)⟩
    · exact ⟨p, h1, Or.inr (Or.inr ⟨by simpa using h3, h2⟩)⟩
  · rintro ⟨p, h1, h2 | h2 | ⟨h3, h2⟩⟩
    · exact Or.inl ⟨p, h1, h2⟩
    · exact Or.inr (Or.inl ⟨p, h1, h2⟩)
    · exact Or.inr (Or.inr ⟨by simpa using h3, p, h1, h2⟩)
theorem sk_dbl {T : tT} {i c : Nat} {M : Nat → Nat → Bool} {lo hi : Nat → Nat} (S : SK T i c M lo hi) {k : Nat} (hk : k < 4) : 2 ≤ dcn (fun v => M v k) 4 ↔ ∃ p, CH T i c p ∧ 2 ≤ dcn (fun v => tmof T c (p v) == k) 4 := by
  constructor
  · intro h
    have hv : ∀ v, v < 4 → ∃ p, vpA T i c v p = true ∧ (M v k = true → tmof T c p = k) := by
      intro v hv
      cases e : M v k with
      | true =>
        obtain ⟨p, hp, ht⟩ := (S.m v hv k hk).mp e
        exact ⟨p, hp, fun _ => ht⟩
      | false => exact ⟨lo v, S.l v hv, fun q => Bool.noConfusion q⟩
    obtain ⟨f, hf⟩ := four hv
    refine ⟨f, fun v h => (hf v h).1, Nat.le_trans h (dcn_mono (fun v hv q => ?_))⟩
    exact eq_b ((hf v hv).2 q)
  · rintro ⟨p, hp, h⟩
    refine Nat.le_trans h (dcn_mono (fun v hv q => ?_))
    exact (S.m v hv k hk).mpr ⟨p v, hp v hv, by simpa using q⟩
theorem tmof_mod (T : tT) (c : Nat) {p q : Nat} (h : p % 12 = q % 12) : tmof T c p = tmof T c q := by unfold tmof; rw [h]
theorem tmof_mem {T : tT} {c p : Nat} (h : tmof T c p < 4) : tmem T c (tmof T c p) = p % 12 := by
  unfold tmof at h ⊢
  by_cases h0 : tmem T c 0 = p % 12
  · rw [if_pos h0]; exact h0
  · rw [if_neg h0] at h ⊢
    by_cases h1 : tmem T c 1 = p % 12
    · rw [if_pos h1]; exact h1
    · rw [if_neg h1] at h ⊢
      by_cases h2 : tmem T c 2 = p % 12
      · rw [if_pos h2]; exact h2
      · rw [if_neg h2] at h ⊢
        by_cases h3 : tmem T c 3 = p % 12
        · rw [if_pos h3]; exact h3
        · rw [if_neg h3] at h; omega
theorem dcn_cong {f g : Nat → Bool} : ∀ {n : Nat}, (∀ v, v < n → f v = g v) → dcn f n = dcn g n
  | 0, _ => rfl
  | n + 1, h => by
    unfold dcn
    rw [dcn_cong (n := n) (fun v hv => h v (by omega)), h n (by omega)]
theorem ldc_mod (T : tT) : ldc T % 12 = ldc T := Nat.mod_mod _ _
theorem sk5 {T : tT} {i c : Nat} {M : Nat → Nat → Bool} {lo hi : Nat → Nat} (S : SK T i c M lo hi) : k5 T M c = true ↔ ∃ p, CH T i c p ∧ bk5 T c p := by
  have hle := tmof_le T c (ldc T)
  unfold k5
  rw [Bool.or_eq_true, Bool.and_eq_true, Bool.and_eq_true, decide_eq_true_eq, decide_eq_true_eq, sk_dbl S (by decide)]
  have hA : ∀ p, CH T i c p → tmof T c (ldc T) < 4 → dcn (fun v => tmof T c (p v) == tmof T c (ldc T)) 4 = dcn (fun v => p v % 12 == ldc T) 4 := by
    intro p hp h4
    refine dcn_cong (fun v hv => ?_)
    by_cases q : p v % 12 = ldc T
    · rw [eq_b q, eq_b (tmof_mod T c (by rw [q, ldc_mod]))]
    · rw [ne_b q, ne_b (fun r => q ?_)]
      have a := tmof_mem (T := T) (c := c) (p := p v) (by rw [r]; exact h4)
      rw [r, tmof_mem h4, ldc_mod] at a
      exact a.symm
  constructor
  · rintro (⟨p, h1, h2⟩ | ⟨h1, h2, h3⟩)
    · exact ⟨p, h1, Or.inl h2⟩
    · have h4 : tmof T c (ldc T) < 4 := by
        have : ¬ tmof T c (ldc T) = 4 := by simpa using h2
        omega
      obtain ⟨p, hp, hd⟩ := (sk_dbl S h4).mp h3
      exact ⟨p, hp, Or.inr ⟨h1, by rw [← hA p hp h4]; exact hd⟩⟩
  · rintro ⟨p, hp, h | ⟨h1, h2⟩⟩
    · exact Or.inl ⟨p, hp, h⟩
    · right
      have h4 : tmof T c (ldc T) < 4 := by
        apply Classical.byContradiction
        intro q
        have : dcn (fun v => p v % 12 == ldc T) 4 ≤ dcn (fun _ => false) 4 := dcn_mono (fun v hv r => ?_)
        · have e0 : dcn (fun _ => false) 4 = 0 := rfl
          omega
        · have r : p v % 12 = ldc T := by simpa using r
          have a := (vpA_all (hp v hv)).2.2.1
          rw [tmof_mod T c (q := ldc T) (by rw [r, ldc_mod])] at a
          exact absurd a q
      refine ⟨h1, by simpa using (show ¬ tmof T c (ldc T) = 4 by omega), (sk_dbl S h4).mpr ⟨p, hp, by rw [hA p hp h4]; exact h2⟩⟩
theorem sk6 {T : tT} {i c : Nat} {M : Nat → Nat → Bool} {lo hi : Nat → Nat} (S : SK T i c M lo hi) : k6 T M i c = true ↔ ∃ p, CH T i c p ∧ bk6 T i c p := by
  have ho : only M 0 3 = false ↔ ∃ p, vpA T i c 3 p = true ∧ ¬ tmof T c p = 0 := by
    constructor
    · intro h
      apply Classical.byContradiction
      intro q
      have hall : ∀ p, vpA T i c 3 p = true → tmof T c p = 0 := fun p hp => Classical.byContradiction (fun r => q ⟨p, hp, r⟩)
      have : msk (M 3) 4 = 2 ^ 0 := (msk_only (by decide)).mpr ⟨(S.m 3 (by decide) 0 (by decide)).mpr ⟨lo 3, S.l 3 (by decide), hall _ (S.l 3 (by decide))⟩, fun j hj hn => by
        cases e : M 3 j with
        | false => rfl
        | true =>
          obtain ⟨p, hp, ht⟩ := (S.m 3 (by decide) j hj).mp e
          exact absurd (by rw [← ht]; exact hall p hp) hn⟩
      unfold only at h
      rw [this] at h; cases h
    · rintro ⟨p, hp, hn⟩
      cases e : only M 0 3 with
      | false => rfl
      | true =>
        unfold only at e
        rw [beq_iff_eq] at e
        have := ((msk_only (by decide)).mp e).2 _ (vpA_all hp).2.2.1 hn
        rw [(S.m 3 (by decide) _ (vpA_all hp).2.2.1).mpr ⟨p, hp, rfl⟩] at this
        cases this
  unfold k6
  rw [Bool.or_eq_true, Bool.and_eq_true, Bool.and_eq_true, Bool.or_eq_true, beq_iff_eq, Bool.not_eq_true', Bool.not_eq_true', Bool.not_eq_true', ho]
  constructor
  · rintro (⟨h1, h2⟩ | ⟨h1, h2 | ⟨p, hp, hn⟩⟩)
    · exact ⟨lo, S.l, Or.inl ⟨h1, h2⟩⟩
    · exact ⟨lo, S.l, Or.inr ⟨h1, Or.inl (by simpa using h2)⟩⟩
    · refine ⟨fun v => if v = 3 then p else lo v, fun v hv => ?_, Or.inr ⟨h1, Or.inr ?_⟩⟩
      · by_cases q : v = 3
        · simp only [if_pos q]; rw [q]; exact hp
        · simp only [if_neg q]; exact S.l v hv
      · simpa using hn
  · rintro ⟨p, hp, ⟨h1, h2⟩ | ⟨h1, h2 | h2⟩⟩
    · exact Or.inl ⟨h1, h2⟩
    · exact Or.inr ⟨h1, Or.inl (by simpa using h2)⟩
    · exact Or.inr ⟨h1, Or.inr ⟨p 3, hp 3 (by decide), h2⟩⟩
/-- some chord below n -/
def SBn (T : tT) (i n : Nat) (b : Nat → (Nat → Nat) → Prop) : Prop := ∃ c, c < n ∧ figM T i c = true ∧ ∃ p, CH T i c p ∧ b c p
def r36 (b3 b4 b5 b6 : Bool) : Int32 := ((bit b3 8 ||| bit b4 16) ||| bit b5 32) ||| bit b6 64
def BRn (T : tT) (i n : Nat) (x : Int32) : Prop := ∃ b3 b4 b5 b6 : Bool, x = r36 b3 b4 b5 b6 ∧ (b3 = true ↔ SBn T i n (fun _ => bk3)) ∧ (b4 = true ↔ SBn T i n (bk4 T)) ∧ (b5 = true ↔ SBn T i n (bk5 T)) ∧ (b6 = true ↔ SBn T i n (bk6 T i))
theorem SB_up {T : tT} {i n : Nat} {b : Nat → (Nat → Nat) → Prop} : SBn T i (n + 1) b ↔ SBn T i n b ∨ (figM T i n = true ∧ ∃ p, CH T i n p ∧ b n p) := by
  constructor
  · rintro ⟨c, hc, h⟩
    by_cases q : c = n
    · subst q; exact Or.inr h
    · exact Or.inl ⟨c, by omega, h⟩
  · rintro (⟨c, hc, h⟩ | h)
    · exact ⟨c, by omega, h⟩
    · exact ⟨n, by omega, h⟩
theorem SB_no {T : tT} {i n : Nat} {b : Nat → (Nat → Nat) → Prop} (h : figM T i n = false ∨ ∃ v, v < 4 ∧ ¬ NE T i n v) (hW : TW T) (hi : i < 16) : SBn T i (n + 1) b ↔ SBn T i n b := by
  rw [SB_up]
  refine ⟨fun q => q.elim id (fun ⟨h1, p, hp, _⟩ => ?_), Or.inl⟩
  rcases h with h | ⟨v, hv, hn⟩
  · rw [h] at h1; cases h1
  · have := (vpA_all (hp v hv)).2.1
    have := (lim_lt hW hi hv).2.1
    exact absurd ⟨p v, by omega, hp v hv⟩ hn
theorem BR_no {T : tT} {i n : Nat} {x : Int32} (hb : BRn T i n x) (h : figM T i n = false ∨ ∃ v, v < 4 ∧ ¬ NE T i n v) (hW : TW T) (hi : i < 16) : BRn T i (n + 1) x := by
  obtain ⟨b3, b4, b5, b6, e, h3, h4, h5, h6⟩ := hb
  exact ⟨b3, b4, b5, b6, e, by rw [SB_no h hW hi]; exact h3, by rw [SB_no h hW hi]; exact h4, by rw [SB_no h hW hi]; exact h5, by rw [SB_no h hW hi]; exact h6⟩
theorem r36_120 : ∀ b3 b4 b5 b6 : Bool, r36 b3 b4 b5 b6 = 120 → b3 = true ∧ b4 = true ∧ b5 = true ∧ b6 = true := by decide
theorem SB_mono {T : tT} {i n m : Nat} {b : Nat → (Nat → Nat) → Prop} (h : n ≤ m) (hs : SBn T i n b) : SBn T i m b := by
  obtain ⟨c, hc, r⟩ := hs
  exact ⟨c, by omega, r⟩
theorem BR_all {T : tT} {i n : Nat} {x : Int32} (hb : BRn T i n x) (h : x = 120) (hn : n ≤ 13) : BRn T i 13 x := by
  obtain ⟨b3, b4, b5, b6, e, h3, h4, h5, h6⟩ := hb
  obtain ⟨t3, t4, t5, t6⟩ := r36_120 _ _ _ _ (e ▸ h)
  exact ⟨b3, b4, b5, b6, e, ⟨fun _ => SB_mono hn (h3.mp t3), fun _ => t3⟩, ⟨fun _ => SB_mono hn (h4.mp t4), fun _ => t4⟩, ⟨fun _ => SB_mono hn (h5.mp t5), fun _ => t5⟩, ⟨fun _ => SB_mono hn (h6.mp t6), fun _ => t6⟩⟩
theorem BR_det {T : tT} {i n : Nat} {x y : Int32} (hx : BRn T i n x) (hy : BRn T i n y) : x = y := by
  obtain ⟨b3, b4, b5, b6, e, h3, h4, h5, h6⟩ := hx
  obtain ⟨c3, c4, c5, c6, f, g3, g4, g5, g6⟩ := hy
  have hb : ∀ (a b : Bool) (P : Prop), (a = true ↔ P) → (b = true ↔ P) → a = b := by
    intro a b P h1 h2
    cases a <;> cases b
    · rfl
    · exact absurd (h1.mpr (h2.mp rfl)) (by decide)
    · exact absurd (h2.mpr (h1.mp rfl)) (by decide)
    · rfl
  rw [e, f, hb _ _ _ h3 g3, hb _ _ _ h4 g4, hb _ _ _ h5 g5, hb _ _ _ h6 g6]
theorem r36_or : ∀ a3 a4 a5 a6 b3 b4 b5 b6 : Bool, (((r36 a3 a4 a5 a6 ||| bit b3 8) ||| bit b4 16) ||| bit b5 32) ||| bit b6 64 = r36 (a3 || b3) (a4 || b4) (a5 || b5) (a6 || b6) := by decide
theorem SK_of {z : st_T} {T : tT} {i c : Nat} (hW : TW T) (hi : i < 16) (hV : ∀ v, v < 4 → SV z T i c v ∧ NE T i c v) : ∃ M lo hi', SK T i c M lo hi' ∧ MM z M ∧ ∀ v, v < 4 → z.2.1 15 v = nI (lo v) ∧ z.2.1 16 v = nI (hi' v) ∧ lo v < 100 ∧ hi' v < 100 := by
  have h100 : ∀ v, v < 4 → ∀ p, vpA T i c v p = true → p < 100 := fun v hv p hp => by
    have := (vpA_all hp).2.1
    have := (lim_lt hW hi hv).2.1
    omega
  have hq : ∀ v, v < 4 → ∃ a : (Nat → Bool) × Nat × Nat, z.2.1 17 v = nI (msk a.1 4) ∧ (∀ k, k < 4 → (a.1 k = true ↔ ∃ p, vpA T i c v p = true ∧ tmof T c p = k)) ∧ z.2.1 15 v = nI a.2.1 ∧ z.2.1 16 v = nI a.2.2 ∧ vpA T i c v a.2.1 = true ∧ vpA T i c v a.2.2 = true ∧ ∀ p, vpA T i c v p = true → a.2.1 ≤ p ∧ p ≤ a.2.2 := by
    intro v hv
    obtain ⟨⟨M, h1, h2, h3⟩, hn⟩ := hV v hv
    obtain ⟨lo, hi', a, b, c', d, e⟩ := h3 hn
    refine ⟨(M, lo, hi'), h1, fun k hk => ?_, a, b, c'.2, d.2, fun p hp => e p (h100 v hv p hp) hp⟩
    rw [h2 k hk]
    exact ⟨fun ⟨p, _, hp⟩ => ⟨p, hp⟩, fun ⟨p, hp⟩ => ⟨p, h100 v hv p hp.1, hp⟩⟩
  obtain ⟨f, hf⟩ := four hq
  refine ⟨fun v => (f v).1, fun v => (f v).2.1, fun v => (f v).2.2, ⟨fun v hv => (hf v hv).2.1, fun v hv => (hf v hv).2.2.2.2.1, fun v hv => (hf v hv).2.2.2.2.2.1, fun v hv => (hf v hv).2.2.2.2.2.2⟩, fun v hv => (hf v hv).1, fun v hv => ⟨(hf v hv).2.2.1, (hf v hv).2.2.2.1, ?_, ?_⟩⟩
  · exact h100 v hv _ (hf v hv).2.2.2.2.1
  · exact h100 v hv _ (hf v hv).2.2.2.2.2.1
theorem BR_step {T : tT} {i n : Nat} {x : Int32} (hb : BRn T i n x) (hf : figM T i n = true) {M : Nat → Nat → Bool} {lo hi : Nat → Nat} (S : SK T i n M lo hi) : BRn T i (n + 1) ((((x ||| bit (anf (k3 lo hi) 3 0) 8) ||| bit (k4 T M n) 16) ||| bit (k5 T M n) 32) ||| bit (k6 T M i n) 64) := by
  obtain ⟨b3, b4, b5, b6, e, h3, h4, h5, h6⟩ := hb
  refine ⟨_, _, _, _, by rw [e, r36_or], ?_, ?_, ?_, ?_⟩
  · rw [Bool.or_eq_true, h3, SB_up, sk3 S, hf]; simp
  · rw [Bool.or_eq_true, h4, SB_up, sk4 S, hf]; simp
  · rw [Bool.or_eq_true, h5, SB_up, sk5 S, hf]; simp
  · rw [Bool.or_eq_true, h6, SB_up, sk6 S, hf]; simp
def ri_zp (Q : Int32 → Prop) (P : st_T → Prop) : ri_O := fun r h' => ∃ v z', r = some (.int v) ∧ h' = st_h z' ∧ Q v ∧ P z'
theorem zb_bit {b : Bool} {k : Int32} {P : Int32 → Prop} (h : P (bit b k)) : (zb b = 0 → P 0) ∧ (¬ zb b = 0 → P k) := by
  cases b
  · exact ⟨fun _ => h, fun c => absurd rfl c⟩
  · exact ⟨fun c => absurd c (by decide), fun _ => h⟩
set_option maxHeartbeats 1000000 in
theorem e2_barring (l : Launch) (z : st_T) (T : tT) (hW : TW T) (hS : RS z T) (hR : RH z T) {i : Nat} (hi : i < 16) : ri_Ev l y2_barring w2_barring r2_barring 0 0 [.ref 30, .int (nI i)] (st_h z) (ri_zp (BRn T i 13) fun z' => md md7 z z') := by
  refine ri_ev (t2_barring l _) rfl rfl rfl (Nat.le_of_ble_eq_true rfl) rfl (z2_barring l _) (fun J hJ => ?_)
  have loop : ∀ n c, n + c = 13 → ∀ x, BRn T i c x → ∀ z1, md md7 z z1 → J 9 0 0 [some (.ref 30), some (.int (nI i)), some (.int (nI (msk (figM T i) 13))), some (.int x), some (.int (nI c))] [] (st_h z1) := by
    intro n
    induction n with
    | zero =>
      intro c hc x hb z1 hm
      have hc13 : c = 13 := by omega
      subst hc13
      refine ri_go hJ [] 90 9 rfl ?_
      exact ⟨fun _ => ⟨x, z1, rfl, rfl, hb, hm⟩, fun c => absurd (by decide) c⟩
    | succ n ih =>
      intro c hc x hb z1 hm
      have e1 := nI_1 c
      have hsh := msk_shr (figM T i) (n := 13) (c := c) (by decide) (by omega)
      have k64 : ∀ x' z2, BRn T i (c + 1) x' → md md7 z z2 → J 64 0 0 [some (.ref 30), some (.int (nI i)), some (.int (nI (msk (figM T i) 13))), some (.int x'), some (.int (nI c))] [] (st_h z2) := by
        intro x' z2 hb2 hm2
        refine ri_go hJ [9] 90 64 rfl ?_
        have := ih (c + 1) (by omega) x' hb2 z2 hm2
        rw [← e1] at this
        exact this
      have k24 : figM T i c = true → ∀ z2, md md7 z z2 → (∀ v, v < 4 → SV z2 T i c v ∧ NE T i c v) → J 24 0 0 [some (.ref 30), some (.int (nI i)), some (.int (nI (msk (figM T i) 13))), some (.int x), some (.int (nI c))] [] (st_h z2) := by
        intro hf z2 hm2 hV
        obtain ⟨M, lo, hi', S, hM, hlh⟩ := SK_of hW hi hV
        have hbs := BR_step hb hf S
        have hR2 := RH_md hR hm2 (by decide)
        have hS2 := RS_md hS hm2 (by decide)
        have k62 : ∀ a b, BRn T i (c + 1) (a ||| b) → J 62 0 0 [some (.ref 30), some (.int (nI i)), some (.int (nI (msk (figM T i) 13))), some (.int a), some (.int (nI c))] [.int b, .int a] (st_h z2) := by
          intro a b h
          refine ri_go hJ [64] 90 62 rfl ?_
          exact k64 _ _ h hm2
        have k51 : ∀ a b, BRn T i (c + 1) ((a ||| b) ||| bit (k6 T M i c) 64) → J 51 0 0 [some (.ref 30), some (.int (nI i)), some (.int (nI (msk (figM T i) 13))), some (.int a), some (.int (nI c))] [.int b, .int a] (st_h z2) := by
          intro a b h
          refine ri_go hJ [62] 90 51 rfl ?_
          refine ⟨_, e2_someBreak6 l z2 T hW hS2 hM hi (c := c) (by omega), ?_⟩
          rintro r h' ⟨rfl, rfl⟩
          exact zb_bit (P := fun k => J 62 0 0 [some (.ref 30), some (.int (nI i)), some (.int (nI (msk (figM T i) 13))), some (.int (a ||| b)), some (.int (nI c))] [.int k, .int (a ||| b)] (st_h z2)) (k62 _ _ h)
        have k41 : ∀ a b, BRn T i (c + 1) (((a ||| b) ||| bit (k5 T M c) 32) ||| bit (k6 T M i c) 64) → J 41 0 0 [some (.ref 30), some (.int (nI i)), some (.int (nI (msk (figM T i) 13))), some (.int a), some (.int (nI c))] [.int b, .int a] (st_h z2) := by
          intro a b h
          refine ri_go hJ [51] 90 41 rfl ?_
          refine ⟨_, e2_someBreak5 l z2 T hW hR2 hM (c := c) (by omega), ?_⟩
          rintro r h' ⟨rfl, rfl⟩
          exact zb_bit (P := fun k => J 51 0 0 [some (.ref 30), some (.int (nI i)), some (.int (nI (msk (figM T i) 13))), some (.int (a ||| b)), some (.int (nI c))] [.int k, .int (a ||| b)] (st_h z2)) (k51 _ _ h)
        have k31 : ∀ a b, BRn T i (c + 1) ((((a ||| b) ||| bit (k4 T M c) 16) ||| bit (k5 T M c) 32) ||| bit (k6 T M i c) 64) → J 31 0 0 [some (.ref 30), some (.int (nI i)), some (.int (nI (msk (figM T i) 13))), some (.int a), some (.int (nI c))] [.int b, .int a] (st_h z2) := by
          intro a b h
          refine ri_go hJ [41] 90 31 rfl ?_
          refine ⟨_, e2_someBreak4 l z2 T hR2 hM (c := c) (by omega), ?_⟩
          rintro r h' ⟨rfl, rfl⟩
          exact zb_bit (P := fun k => J 41 0 0 [some (.ref 30), some (.int (nI i)), some (.int (nI (msk (figM T i) 13))), some (.int (a ||| b)), some (.int (nI c))] [.int k, .int (a ||| b)] (st_h z2)) (k41 _ _ h)
        refine ri_go hJ [31] 90 24 rfl ?_
        refine ⟨_, e2_someBreak3 l z2 hlh, ?_⟩
        rintro r h' ⟨rfl, rfl⟩
        exact zb_bit (P := fun k => J 31 0 0 [some (.ref 30), some (.int (nI i)), some (.int (nI (msk (figM T i) 13))), some (.int x), some (.int (nI c))] [.int k, .int x] (st_h z2)) (k31 _ _ hbs)
      refine ri_go hJ [64, 24] 90 9 rfl ?_
      refine ⟨fun d => absurd d (nI_ge (b := 13) (by omega) (by decide)), fun _ => ⟨fun d => k64 x z1 (BR_no hb (Or.inl ?_) hW hi) hm, fun d => ⟨_, e2_surveyVoices l z1 T hW (RS_md hS hm (by decide)) (RH_md hR hm (by decide)) hi (c := c) (by omega), ?_⟩⟩⟩
      · have d : ¬ (nI (msk (figM T i) 13) >>> (nI c &&& 31)) &&& 1 = 1 := d
        rw [hsh] at d
        cases h : figM T i c with
        | false => rfl
        | true => rw [h] at d; exact absurd rfl d
      · rintro r h' ⟨b, z2, rfl, rfl, hm2, ht, hf⟩
        have d : (nI (msk (figM T i) 13) >>> (nI c &&& 31)) &&& 1 = 1 := Decidable.not_not.mp d
        rw [hsh] at d
        have hM : figM T i c = true := by
          cases h : figM T i c with
          | true => rfl
          | false => rw [h] at d; exact absurd d (by decide)
        refine ⟨fun g => k64 x z2 (BR_no hb (Or.inr (hf (zb_0.mp g))) hW hi) (md_tr hm hm2), fun g => k24 hM z2 (md_tr hm hm2) (ht (zb_1.mp g))⟩
  refine ri_run_ok hJ [9] 90 0 0 0 _ _ _ ?_
  refine ⟨_, e0_figuredChords l z T hW hS hi, ?_⟩
  rintro r h' ⟨rfl, rfl⟩
  refine loop 13 0 rfl 0 ⟨false, false, false, false, rfl, ?_, ?_, ?_, ?_⟩ z (md_rf _ _)
  all_goals exact ⟨fun q => Bool.noConfusion q, fun ⟨c, hc, _⟩ => absurd hc (by omega)⟩
