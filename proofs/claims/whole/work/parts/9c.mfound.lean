/-! THE REFERENCE: findStates finds the states; findStates finds what bars -/
theorem r36_o2 : ∀ b3 b4 b5 b6 d3 d4 d5 d6 : Bool, r36 b3 b4 b5 b6 ||| r36 d3 d4 d5 d6 = r36 (b3 || d3) (b4 || d4) (b5 || d5) (b6 || d6) := by decide
theorem EF_rf (z : st_T) (i : Nat) : EF z z i := ⟨fun _ _ => rfl, fun _ _ => ⟨rfl, rfl⟩, mm_rf _ _ _⟩
theorem EF_127 {z z' : st_T} {i : Nat} (h : EF z z' i) (g : Nat → Int32) : EF z (fa z' 127 g) i := by
  refine ⟨fun q hq => ?_, fun q hq => ?_, mm_tr h.2.2 (mm_fa (by decide))⟩
  · rw [fa_ne _ _ (by decide)]; exact h.1 q hq
  · rw [fa_ne _ _ (by decide), fa_ne _ _ (by decide)]; exact h.2.1 q hq
theorem EF_32 {z z' : st_T} {i : Nat} (h : EF z z' i) (x : Int32) : EF z (fs z' 101 32 x) i := ⟨h.1, h.2.1, mm_tr h.2.2 (mm_fs (by decide))⟩
theorem EF_P {z z' z'' : st_T} {i : Nat} (h : EF z z' i) (h' : EP z' z'' i) : EF z z'' i := by
  refine ⟨fun q hq => (h'.1 q hq).trans (h.1 q hq), fun q hq => ⟨((h'.2.1 q hq).1).trans (h.2.1 q hq).1, ((h'.2.1 q hq).2).trans (h.2.1 q hq).2⟩, mm_tr h.2.2 (mm_mo h'.2.2 (by decide) (by decide))⟩
theorem RM_EF {z z' : st_T} {T : tT} {i : Nat} (h : RM z T) (hE : EF z z' i) : RM z' T := RM_mm h hE.2.2 (by decide) (by decide)
theorem MS_mm {z z' : st_T} {T : tT} {i : Nat} {L : List Nat} (h : MS z T i L) (h1 : z'.2.1 114 = z.2.1 114) (h2 : z'.2.1 115 = z.2.1 115) (h3 : z'.2.1 116 = z.2.1 116) : MS z' T i L := by
  intro j y hj h4
  unfold EN
  rw [h1, h2, h3]
  exact h j y hj h4
/-- visited -/
noncomputable def V5 (c a b d e x : Nat) : Bool := @decide (VP c a b d e (chd x) (pit x)) (Classical.propDecidable _)
theorem V5_cong {c a b d e c2 a2 b2 d2 e2 x : Nat} (h : VP c a b d e (chd x) (pit x) ↔ VP c2 a2 b2 d2 e2 (chd x) (pit x)) : V5 c a b d e x = V5 c2 a2 b2 d2 e2 x := by
  unfold V5
  exact @decide_eq_decide _ _ (Classical.propDecidable _) (Classical.propDecidable _) |>.mpr h
theorem V5_t {c a b d e x : Nat} : V5 c a b d e x = true ↔ VP c a b d e (chd x) (pit x) := by
  unfold V5
  exact @decide_eq_true_iff _ (Classical.propDecidable _)
def IA (z0 : st_T) (T : tT) (i : Nat) (st : Bool) (X : List Nat) (f : Nat → Bool) (z1 : st_T) (n : Int32) : Prop := RM z1 T ∧ EF z0 z1 i ∧ n = nI (X.filter f).length ∧ (st = true → (X.filter f).length ≤ 400 → MS z1 T i (X.filter f))
theorem IA_eq {z0 z1 : st_T} {T : tT} {i : Nat} {st : Bool} {X : List Nat} {f g : Nat → Bool} {n : Int32} (h : IA z0 T i st X f z1 n) (e : ∀ x ∈ X, g x = f x) : IA z0 T i st X g z1 n := by
  unfold IA
  rw [List.filter_congr e]
  exact h
theorem pk5_v {a b d e c : Nat} (h0 : 36 ≤ a ∧ a ≤ 84) (h1 : 36 ≤ b ∧ b ≤ 84) (h2 : 36 ≤ d ∧ d ≤ 84) (h3 : 36 ≤ e ∧ e ≤ 84) (hc : c < 13) : pit (pk5 a b d e c) 0 = a ∧ pit (pk5 a b d e c) 1 = b ∧ pit (pk5 a b d e c) 2 = d ∧ pit (pk5 a b d e c) 3 = e ∧ chd (pk5 a b d e c) = c ∧ pk5 a b d e c < 2 ^ 28 := by
  rw [pit0, pit1, pit2, pit3, chd_d]
  unfold pk5
  omega
set_option maxHeartbeats 2000000 in
theorem e10_findA (l : Launch) (z : st_T) (T : tT) (hW : TW T) (hM : RM z T) {i : Nat} (hi : i < T 8 2) (st : Bool) : ri_Ev l y10_findStates w10_findStates r10_findStates 0 0 [.ref 117, .int (nI i), .int (zb st), .int (zb false)] (st_h z) (fun r h' => ∃ n z', r = some (.int n) ∧ h' = st_h z' ∧ IA z T i st (stL T i) (V5 13 0 0 0 0) z' n) := by
  have hX : ∀ x, x ∈ stL T i → EL T i false (chd x) (pit x) ∧ ¬ bk4 T (chd x) (pit x) ∧ ¬ bk5 T (chd x) (pit x) ∧ ¬ bk6 T i (chd x) (pit x) := fun x hx => ((okS_m hW hi).mp (stL_mem.mp hx)).2
  have hmem : ∀ x, x < 2 ^ 28 → EL T i false (chd x) (pit x) → ¬ bk4 T (chd x) (pit x) → ¬ bk5 T (chd x) (pit x) → ¬ bk6 T i (chd x) (pit x) → x ∈ stL T i := fun x h0 h1 h2 h3 h4 => stL_mem.mpr ((okS_m hW hi).mpr ⟨h0, h1, h2, h3, h4⟩)
  have hsrt := stL_srt T i
  have hlen := stL_len T i
  have hb28 : ∀ x, x ∈ stL T i → x < 2 ^ 28 := fun x hx => ((okS_m hW hi).mp (stL_mem.mp hx)).1
  generalize stL T i = X at hX hmem hsrt hlen hb28 ⊢
  have hrg := hW.2.2.2.2.2.2.2.1
  have hn := hW.1
  exact e10_findStates l z T hW hi st false (fun z1 n c a b d e => IA z T i st X (V5 c a b d e) z1 n)
    (fun z1 n c a b d e h => h.1)
    (fun z1 n c a b d e g h => ⟨RM_EF hM (EF_127 h.2.1 g), EF_127 h.2.1 g, h.2.2.1, fun h1 h2 => MS_mm (h.2.2.2 h1 h2) (fa_ne _ _ (by decide)) (fa_ne _ _ (by decide)) (fa_ne _ _ (by decide))⟩)
    (by
      have e : X.filter (V5 0 0 0 0 0) = [] := List.filter_eq_nil_iff.mpr (fun x hx h => vp_none hW (hX x hx).1 (V5_t.mp h))
      refine ⟨RM_EF hM (EF_32 (EF_rf z i) 0), EF_32 (EF_rf z i) 0, ?_, fun _ _ => ?_⟩
      · rw [e]; rfl
      · rw [e]; intro j y hj; simp at hj)
    (fun z1 n c hc h hf => IA_eq h (fun x hx => V5_cong (vp_c1 hW (hX x hx).1 hf)))
    (fun z1 n c hc h => IA_eq h (fun x hx => V5_cong (vp_a0 hW (hX x hx).1)))
    (fun z1 n c a hc h ha => IA_eq h (fun x hx => V5_cong (vp_a1 hW (hX x hx).1 ha)))
    (fun z1 n c a hc h => IA_eq h (fun x hx => V5_cong (vp_b0 hW (hX x hx).1)))
    (fun z1 n c a b hc h q => IA_eq h (fun x hx => V5_cong (vp_b1 hW (hX x hx).1 q)))
    (fun z1 n c a b hc h => IA_eq h (fun x hx => V5_cong (vp_d0 hW (hX x hx).1)))
    (fun z1 n c a b d hc h q => IA_eq h (fun x hx => V5_cong (vp_d1 hW (hX x hx).1 q)))
    (fun z1 n c a b d hc h => IA_eq h (fun x hx => V5_cong (vp_e0 hW (hX x hx).1)))
    (fun z1 n c a b d e hc h q => IA_eq h (fun x hx => V5_cong (vp_e1 hW (hX x hx).1 q)))
    (by
      intro z1 n c a b d e hc hf ha hb hd he m0 m1 m2 hN hI
      have r0 := hrg 0 (by decide)
      have r1 := hrg 1 (by decide)
      have r2 := hrg 2 (by decide)
      have r3 := hrg 3 (by decide)
      have bb : (36 ≤ b ∧ T 6 1 ≤ b ∧ b ≤ T 7 1) ∧ (36 ≤ d ∧ T 6 2 ≤ d ∧ d ≤ T 7 2) ∧ (36 ≤ e ∧ T 6 3 ≤ e ∧ e ≤ T 7 3) := by
        unfold lov hiv at hb hd he
        simp only [Bool.false_eq_true, if_false] at hb hd he
        omega
      obtain ⟨v0, v1, v2, v3, v4, v5⟩ := pk5_v (a := a) (b := b) (d := d) (e := e) (c := c) (by omega) (by omega) (by omega) (by omega) hc
      have hpe : ∀ v, v < 4 → pit (pk5 a b d e c) v = p4 a b d e v := p4_eq v0 v1 v2 v3
      -- no state has this choice
      have none' : (∀ x ∈ X, ¬ (chd x = c ∧ pit x 0 = a ∧ pit x 1 = b ∧ pit x 2 = d ∧ pit x 3 = e)) → ∀ x ∈ X, V5 c a b d (e + 1) x = V5 c a b d e x := fun h x hx => V5_cong (vp_1 (h x hx))
      refine ⟨fun m3 => IA_eq hI (none' (fun x hx q => ?_)), fun m3 xb hxb => ⟨fun hx0 => ?_, fun hx0 => ?_⟩⟩
      · have := ((hX x hx).1.1 3 (by decide)).2
        rw [q.2.2.2.2, q.1, m3] at this; cases this
      · have h2 : IA z T i st X (V5 c a b d (e + 1)) z1 n := IA_eq hI (none' (fun x hx q => ?_))
        · exact ⟨RM_EF hM (EF_32 h2.2.1 _), EF_32 h2.2.1 _, h2.2.2.1, fun g1 g2 => MS_mm (h2.2.2.2 g1 g2) rfl rfl rfl⟩
        · obtain ⟨b3, b4, b5, b6, rfl, k3, k4, k5, k6⟩ := hxb
          have hpx : ∀ v, v < 4 → pit x v = p4 a b d e v := p4_eq q.2.1 q.2.2.1 q.2.2.2.1 q.2.2.2.2
          obtain ⟨e1, e4, e5, e6⟩ := hX x hx
          rw [q.1] at e4 e5 e6
          rcases r36_n b3 b4 b5 b6 hx0 with w | w | w | w
          · exact e1.2.1 rfl ((bk3_c hpx).mpr (k3.mp w))
          · exact e4 ((bk4_c hpx).mpr (k4.mp w))
          · exact e5 ((bk5_c hpx).mpr (k5.mp w))
          · exact e6 ((bk6_c hpx).mpr (k6.mp w))
      · obtain ⟨b3, b4, b5, b6, hr, k3, k4, k5, k6⟩ := hxb
        obtain ⟨f3, f4, f5, f6⟩ := r36_0 b3 b4 b5 b6 (by rw [← hr]; exact hx0)
        have n3 : ¬ bk3 (p4 a b d e) := fun q => by rw [k3.mpr q] at f3; cases f3
        have n4 : ¬ bk4 T c (p4 a b d e) := fun q => by rw [k4.mpr q] at f4; cases f4
        have n5 : ¬ bk5 T c (p4 a b d e) := fun q => by rw [k5.mpr q] at f5; cases f5
        have n6 : ¬ bk6 T i c (p4 a b d e) := fun q => by rw [k6.mpr q] at f6; cases f6
        have hxm : pk5 a b d e c ∈ X := by
          refine hmem _ v5 ⟨fun v hv => ?_, fun _ q => n3 ((bk3_c hpe).mp q), by rw [v4]; exact hf, by rw [v4]; exact hc⟩ ?_ ?_ ?_
          · rw [v4]
            match v, hv with
            | 0, _ => rw [v0]; exact ⟨ha, m0⟩
            | 1, _ => rw [v1]; exact ⟨bb.1.2, m1⟩
            | 2, _ => rw [v2]; exact ⟨bb.2.1.2, m2⟩
            | 3, _ => rw [v3]; exact ⟨bb.2.2.2, m3⟩
            | v + 4, hv => exact absurd hv (by omega)
          · rw [v4]; exact fun q => n4 ((bk4_c hpe).mp q)
          · rw [v4]; exact fun q => n5 ((bk5_c hpe).mp q)
          · rw [v4]; exact fun q => n6 ((bk6_c hpe).mp q)
        obtain ⟨A, B, hA1, hA2, hA3, hA4⟩ := filt_ins hsrt hxm (P := V5 c a b d e) (P' := V5 c a b d (e + 1)) (Bool.eq_false_iff.mpr (fun q => by
          have := V5_t.mp q
          unfold VP at this
          rw [v0, v1, v2, v3, v4] at this
          omega)) (V5_t.mpr (by
          unfold VP
          rw [v0, v1, v2, v3, v4]
          omega)) (fun y hy hne => V5_cong (vp_1 (fun q => hne (by
          have hp : ∀ v, v < 4 → pit y v = pit (pk5 a b d e c) v := fun v hv => (p4_eq q.2.1 q.2.2.1 q.2.2.2.1 q.2.2.2.2 v hv).trans (hpe v hv).symm
          have := lex_eq v5 (hb28 y hy) hp
          have h1 := this.2
          have h2 := q.1
          rw [← v4, chd_d, chd_d] at h2
          omega))))
        have el : (X.filter (V5 c a b d (e + 1))).length = (X.filter (V5 c a b d e)).length + 1 := by
          rw [hA1, hA2, List.length_append, List.length_append, List.length_cons]; omega
        have hXl : (X.filter (V5 c a b d e)).length ≤ 2 ^ 28 := Nat.le_trans (List.length_filter_le _ _) hlen
        have en : n + 1 = nI (X.filter (V5 c a b d (e + 1))).length := by rw [el, hI.2.2.1]; exact nI_1 _
        refine ⟨fun hs => ⟨RM_EF hM (EF_32 hI.2.1 _), EF_32 hI.2.1 _, en, fun g1 g2 => ?_⟩, fun hs h4 => ?_⟩
        · rcases hs with hs | hs
          · rw [hs] at g1; cases g1
          · rw [hI.2.2.1, nn_le (by decide) (by omega)] at hs
            omega
        · rw [hI.2.2.1, nn_le (by decide) (by omega)] at h4
          have hMS := hI.2.2.2 hs (by omega)
          rw [hA1] at hMS h4
          have hE2 := EF_32 hI.2.1 (z1.1 101 32 ||| xb)
          have hin : ∀ y ∈ A ++ B, y < 2 ^ 28 := fun y hy => hb28 y (by rw [← hA1] at hy; exact (List.mem_filter.mp hy).1)
          have ep := e10_putState l (fs z1 101 32 (z1.1 101 32 ||| xb)) T hW (RM_EF hM hE2) (i := i) (x := pk5 a b d e c) (A := A) (B := B) (by omega) v5 (by rw [v4]; exact hc) (fun v hv => by rw [hpe v hv]; exact hN v hv) (by omega) (MS_mm hMS rfl rfl rfl) hA3 hA4 hin
          rw [v4, ← hA1, ← hI.2.2.1] at ep
          refine ⟨_, ep, ?_⟩
          rintro r h' ⟨rfl, z3, rfl, hM3, hE3⟩
          refine ⟨rfl, z3, rfl, ⟨RM_EF hM (EF_P hE2 hE3), EF_P hE2 hE3, en, fun _ _ => ?_⟩, ?_⟩
          · rw [hA2]; exact hM3
          · rw [hE3.2.2.1 127 (by decide)]; rfl)
theorem findA_end {z z' : st_T} {T : tT} (hW : TW T) {i : Nat} (hi : i < T 8 2) {st : Bool} {n : Int32} (h : IA z T i st (stL T i) (V5 13 0 0 0 0) z' n) : n = nI (stL T i).length ∧ EF z z' i ∧ (st = true → (stL T i).length ≤ 400 → MS z' T i (stL T i)) := by
  have hc : ∀ x, x ∈ stL T i → chd x < 13 := fun x hx => ((okS_m hW hi).mp (stL_mem.mp hx)).2.1.2.2.2
  generalize stL T i = X at h hc ⊢
  have e13 : X.filter (V5 13 0 0 0 0) = X := List.filter_eq_self.mpr (fun x hx => V5_t.mpr (vp_all (hc x hx)))
  obtain ⟨-, h2, h3, h4⟩ := h
  rw [e13] at h3 h4
  exact ⟨h3, h2, h4⟩
-- what bars an empty place
def SBV (T : tT) (i c a b d e : Nat) (k : Nat → (Nat → Nat) → Prop) : Prop := ∃ c' p, c' < 13 ∧ figM T i c' = true ∧ CH T i c' p ∧ VP c a b d e c' p ∧ k c' p
theorem CH_EL {T : tT} (hW : TW T) {i c : Nat} {p : Nat → Nat} (hc : c < 13) (hf : figM T i c = true) : CH T i c p ↔ EL T i true c p := by
  constructor
  · intro h
    exact ⟨fun v hv => (vpA_m hW hv).mp (h v hv), fun q => (by cases q), hf, hc⟩
  · intro h v hv
    exact (vpA_m hW hv).mpr (h.1 v hv)
theorem SBV_eq {T : tT} (hW : TW T) {i c a b d e c2 a2 b2 d2 e2 : Nat} (h : ∀ c' p, EL T i true c' p → (VP c a b d e c' p ↔ VP c2 a2 b2 d2 e2 c' p)) (k : Nat → (Nat → Nat) → Prop) : SBV T i c a b d e k ↔ SBV T i c2 a2 b2 d2 e2 k := by
  constructor
  · rintro ⟨c', p, h1, h2, h3, h4, h5⟩
    exact ⟨c', p, h1, h2, h3, (h c' p ((CH_EL hW h1 h2).mp h3)).mp h4, h5⟩
  · rintro ⟨c', p, h1, h2, h3, h4, h5⟩
    exact ⟨c', p, h1, h2, h3, (h c' p ((CH_EL hW h1 h2).mp h3)).mpr h4, h5⟩
def IB (z0 : st_T) (T : tT) (i : Nat) (z1 : st_T) (c a b d e : Nat) : Prop := RM z1 T ∧ EF z0 z1 i ∧ ∃ b3 b4 b5 b6 : Bool, z1.1 101 32 = r36 b3 b4 b5 b6 ∧ (b3 = true ↔ SBV T i c a b d e (fun _ => bk3)) ∧ (b4 = true ↔ SBV T i c a b d e (bk4 T)) ∧ (b5 = true ↔ SBV T i c a b d e (bk5 T)) ∧ (b6 = true ↔ SBV T i c a b d e (bk6 T i))
theorem IB_eq {z0 z1 : st_T} {T : tT} (hW : TW T) {i c a b d e c2 a2 b2 d2 e2 : Nat} (hI : IB z0 T i z1 c a b d e) (h : ∀ c' p, EL T i true c' p → (VP c2 a2 b2 d2 e2 c' p ↔ VP c a b d e c' p)) : IB z0 T i z1 c2 a2 b2 d2 e2 := by
  obtain ⟨h1, h2, b3, b4, b5, b6, hr, k3, k4, k5, k6⟩ := hI
  exact ⟨h1, h2, b3, b4, b5, b6, hr, k3.trans (SBV_eq hW h _).symm, k4.trans (SBV_eq hW h _).symm, k5.trans (SBV_eq hW h _).symm, k6.trans (SBV_eq hW h _).symm⟩
theorem bor_iff {a b : Bool} {P Q R : Prop} (ha : a = true ↔ P) (hb : b = true ↔ Q) (hR : R ↔ P ∨ Q) : (a || b) = true ↔ R := by
  rw [Bool.or_eq_true, ha, hb, hR]
/-- one choice more -/
theorem SBV_1 {T : tT} {i c a b d e : Nat} {k : Nat → (Nat → Nat) → Prop} (hc : c < 13) (hf : figM T i c = true) (hC : CH T i c (p4 a b d e)) (hk : ∀ p, (∀ v, v < 4 → p v = p4 a b d e v) → (k c p ↔ k c (p4 a b d e))) : SBV T i c a b d (e + 1) k ↔ SBV T i c a b d e k ∨ k c (p4 a b d e) := by
  constructor
  · rintro ⟨c', p, h1, h2, h3, h4, h5⟩
    by_cases q : c' = c ∧ p 0 = a ∧ p 1 = b ∧ p 2 = d ∧ p 3 = e
    · obtain ⟨rfl, q0, q1, q2, q3⟩ := q
      exact Or.inr ((hk p (p4_eq q0 q1 q2 q3)).mp h5)
    · exact Or.inl ⟨c', p, h1, h2, h3, (vp_1 q).mp h4, h5⟩
  · rintro (⟨c', p, h1, h2, h3, h4, h5⟩ | h)
    · refine ⟨c', p, h1, h2, h3, ?_, h5⟩
      unfold VP at h4 ⊢; omega
    · refine ⟨c, p4 a b d e, hc, hf, hC, ?_, h⟩
      show c < c ∨ (c = c ∧ (a < a ∨ (a = a ∧ (b < b ∨ (b = b ∧ (d < d ∨ (d = d ∧ e < e + 1)))))))
      omega
set_option maxHeartbeats 2000000 in
theorem e10_findB (l : Launch) (z : st_T) (T : tT) (hW : TW T) (hM : RM z T) {i : Nat} (hi : i < T 8 2) : ri_Ev l y10_findStates w10_findStates r10_findStates 0 0 [.ref 117, .int (nI i), .int (zb false), .int (zb true)] (st_h z) (fun r h' => ∃ n z', r = some (.int n) ∧ h' = st_h z' ∧ IB z T i z' 13 0 0 0 0) := by
  refine e10_findStates l z T hW hi false true (fun z1 n c a b d e => IB z T i z1 c a b d e)
    (fun z1 n c a b d e h => h.1)
    (fun z1 n c a b d e g h => ⟨RM_EF hM (EF_127 h.2.1 g), EF_127 h.2.1 g, h.2.2⟩)
    ?_
    (fun z1 n c hc h hf => IB_eq hW h (fun c' p hx => vp_c1 hW hx hf))
    (fun z1 n c hc h => IB_eq hW h (fun c' p hx => vp_a0 hW hx))
    (fun z1 n c a hc h ha => IB_eq hW h (fun c' p hx => vp_a1 hW hx ha))
    (fun z1 n c a hc h => IB_eq hW h (fun c' p hx => vp_b0 hW hx))
    (fun z1 n c a b hc h q => IB_eq hW h (fun c' p hx => vp_b1 hW hx q))
    (fun z1 n c a b hc h => IB_eq hW h (fun c' p hx => vp_d0 hW hx))
    (fun z1 n c a b d hc h q => IB_eq hW h (fun c' p hx => vp_d1 hW hx q))
    (fun z1 n c a b d hc h => IB_eq hW h (fun c' p hx => vp_e0 hW hx))
    (fun z1 n c a b d e hc h q => IB_eq hW h (fun c' p hx => vp_e1 hW hx q))
    ?_
  · have no : ∀ k, ¬ SBV T i 0 0 0 0 0 k := fun k ⟨c', p, h1, h2, h3, h4, h5⟩ => vp_none hW ((CH_EL hW h1 h2).mp h3) h4
    refine ⟨RM_EF hM (EF_32 (EF_rf z i) 0), EF_32 (EF_rf z i) 0, false, false, false, false, fs_self _ _ _ _, ?_, ?_, ?_, ?_⟩ <;> exact ⟨fun h => (by cases h), fun h => absurd h (no _)⟩
  · intro z1 n c a b d e hc hf ha hb hd he m0 m1 m2 hN hI
    unfold lov hiv at hb hd he
    simp only [if_true] at hb hd he
    refine ⟨fun m3 => IB_eq hW hI (fun c' p hx => vp_1 (fun q => ?_)), fun m3 xb hxb => ?_⟩
    · have := (hx.1 3 (by decide)).2
      rw [q.2.2.2.2, q.1, m3] at this; cases this
    · obtain ⟨d3, d4, d5, d6, hr, k3, k4, k5, k6⟩ := hxb
      have hC : CH T i c (p4 a b d e) := by
        intro v hv
        rw [vpA_m hW hv]
        match v, hv with
        | 0, _ => exact ⟨ha, m0⟩
        | 1, _ => exact ⟨hb, m1⟩
        | 2, _ => exact ⟨hd, m2⟩
        | 3, _ => exact ⟨he, m3⟩
        | v + 4, hv => exact absurd hv (by omega)
      have fin : IB z T i (fs z1 101 32 (z1.1 101 32 ||| xb)) c a b d (e + 1) := by
        obtain ⟨h1, h2, b3, b4, b5, b6, hq, j3, j4, j5, j6⟩ := hI
        refine ⟨RM_EF hM (EF_32 h2 _), EF_32 h2 _, b3 || d3, b4 || d4, b5 || d5, b6 || d6, ?_, ?_, ?_, ?_, ?_⟩
        · rw [fs_self, hq, hr, r36_o2]
        · exact bor_iff j3 k3 (SBV_1 hc hf hC (fun p hp => bk3_c hp))
        · exact bor_iff j4 k4 (SBV_1 hc hf hC (fun p hp => bk4_c hp))
        · exact bor_iff j5 k5 (SBV_1 hc hf hC (fun p hp => bk5_c hp))
        · exact bor_iff j6 k6 (SBV_1 hc hf hC (fun p hp => bk6_c hp))
      exact ⟨fun _ => fin, fun _ => ⟨fun _ => fin, fun q => (by cases q)⟩⟩
theorem findB_end {z z' : st_T} {T : tT} {i : Nat} (h : IB z T i z' 13 0 0 0 0) : BRn T i 13 (z'.1 101 32) := by
  obtain ⟨-, -, b3, b4, b5, b6, hr, k3, k4, k5, k6⟩ := h
  have e : ∀ k, SBV T i 13 0 0 0 0 k ↔ SBn T i 13 k := by
    intro k
    constructor
    · rintro ⟨c', p, h1, h2, h3, h4, h5⟩
      exact ⟨c', h1, h2, p, h3, h5⟩
    · rintro ⟨c', h1, h2, p, h3, h5⟩
      exact ⟨c', p, h1, h2, h3, vp_all h1, h5⟩
  exact ⟨b3, b4, b5, b6, hr, k3.trans (e _), k4.trans (e _), k5.trans (e _), k6.trans (e _)⟩
