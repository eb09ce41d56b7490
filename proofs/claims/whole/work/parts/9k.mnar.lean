/-! THE REFERENCE: narrow -/
def lx (a b : Nat × Nat) : Prop := a.1 < b.1 ∨ (a.1 = b.1 ∧ a.2 < b.2)
theorem lx_tr {a b c : Nat × Nat} (h : lx a b) (h' : lx b c) : lx a c := by unfold lx at *; omega
theorem lx_ir {a : Nat × Nat} : ¬ lx a a := by unfold lx; omega
theorem insr_lx {a : Nat × Nat} : ∀ L : wy, L.Pairwise lx → (∀ b ∈ L, b.2 < a.2) → (insr a L).Pairwise lx
  | [], _, _ => List.pairwise_singleton _ _
  | b :: r, h, hl => by
    rw [List.pairwise_cons] at h
    have hb := hl b (List.mem_cons_self ..)
    unfold insr
    by_cases q : b.1 ≤ a.1
    · rw [if_pos q, List.pairwise_cons]
      refine ⟨fun c hc => ?_, insr_lx r h.2 (fun c hc => hl c (List.mem_cons_of_mem _ hc))⟩
      rcases insr_mem.mp hc with rfl | hc
      · unfold lx; omega
      · exact h.1 c hc
    · rw [if_neg q, List.pairwise_cons]
      refine ⟨fun c hc => ?_, List.pairwise_cons.mpr h⟩
      rcases List.mem_cons.mp hc with rfl | hc
      · unfold lx; omega
      · have := h.1 c hc
        unfold lx at *; omega
theorem take_key {m : Nat} {F : wy} (hF : F.Pairwise lx) {c : Nat × Nat} (hc : c ∈ F) (hn : ¬ c ∈ F.take m) : (F.take m).length = m ∧ ∀ b ∈ F.take m, lx b c := by
  have e := List.take_append_drop m F
  have hd : c ∈ F.drop m := by
    rw [← e] at hc
    rcases List.mem_append.mp hc with h | h
    · exact absurd h hn
    · exact h
  have hl : m < F.length := by
    rcases Nat.lt_or_ge m F.length with h | h
    · exact h
    · rw [List.drop_eq_nil_of_le h] at hd; cases hd
  rw [← e, List.pairwise_append] at hF
  exact ⟨by rw [List.length_take]; omega, fun b hb => hF.2.2 b hb c hd⟩
theorem nrw_lx (m : Nat) (W : Nat → wy) : ∀ n, (nrw m W n).Pairwise lx ∧ ∀ s, s < n → goW W s = true → ¬ inB (nrw m W n) s → (nrw m W n).length = m ∧ ∀ b ∈ nrw m W n, lx b (hd (W s), s)
  | 0 => ⟨List.Pairwise.nil, fun s h => absurd h (by omega)⟩
  | n + 1 => by
    obtain ⟨h1, h2⟩ := nrw_lx m W n
    obtain ⟨-, -, k3, -⟩ := nrw_ok m W n
    cases h : goW W n with
    | false =>
      rw [nrw_0 h]
      refine ⟨h1, fun s hs hg hn => ?_⟩
      by_cases e : s = n
      · rw [e, h] at hg; cases hg
      · exact h2 s (by omega) hg hn
    | true =>
      rw [nrw_1 h]
      unfold insk
      have hF := insr_lx (a := (hd (W n), n)) (nrw m W n) h1 (fun b hb => (k3 b hb).1)
      refine ⟨hF.sublist (List.take_sublist _ _), fun s hs hg hn => ?_⟩
      by_cases e : s = n
      · subst e
        exact take_key hF (insr_mem.mpr (Or.inl rfl)) (fun q => hn ⟨_, q, rfl⟩)
      · by_cases q : inB (nrw m W n) s
        · obtain ⟨c, hc, e2⟩ := q
          have e1 := (k3 c hc).2.2
          have ec : c = (hd (W s), s) := Prod.ext (by rw [e1, e2]) e2
          rw [ec] at hc
          exact take_key hF (insr_mem.mpr (Or.inr hc)) (fun q => hn ⟨_, q, rfl⟩)
        · obtain ⟨g1, g2⟩ := h2 s (by omega) hg q
          have hl : (insr (hd (W n), n) (nrw m W n)).length = m + 1 := by rw [insr_len, g1]
          refine ⟨by rw [List.length_take]; omega, fun b hb => ?_⟩
          rcases insr_mem.mp (List.mem_of_mem_take hb) with rfl | hbr
          · obtain ⟨c, hc⟩ : ∃ c, c ∈ (insr (hd (W n), n) (nrw m W n)).drop m := by
              cases ed : (insr (hd (W n), n) (nrw m W n)).drop m with
              | nil =>
                have := congrArg List.length ed
                rw [List.length_drop] at this
                simp at this; omega
              | cons c r => exact ⟨c, List.mem_cons_self ..⟩
            have hF2 := hF
            rw [← List.take_append_drop m (insr (hd (W n), n) (nrw m W n)), List.pairwise_append] at hF2
            have hac := hF2.2.2 _ hb c hc
            rcases insr_mem.mp (List.mem_of_mem_drop hc) with rfl | hcr
            · exact absurd hac lx_ir
            · exact lx_tr hac (g2 c hcr)
          · exact g2 b hbr
/-- is it among the first k -/
def kpB (R : wy) (k s : Nat) : Bool := (R.take k).any (fun a => a.2 == s)
theorem kpB_t {R : wy} {k s : Nat} : kpB R k s = true ↔ ∃ (j : Nat) (a : Nat × Nat), j < k ∧ R[j]? = some a ∧ a.2 = s := by
  unfold kpB
  rw [List.any_eq_true]
  constructor
  · rintro ⟨a, ha, e⟩
    obtain ⟨j, hj⟩ := List.mem_iff_getElem?.mp ha
    rw [List.getElem?_take] at hj
    by_cases q : j < k
    · rw [if_pos q] at hj
      exact ⟨j, a, q, hj, by simpa using e⟩
    · rw [if_neg q] at hj; cases hj
  · rintro ⟨j, a, hj, ha, e⟩
    exact ⟨a, List.mem_iff_getElem?.mpr ⟨j, by rw [List.getElem?_take, if_pos hj]; exact ha⟩, by simpa using e⟩
theorem kpB_1 {R : wy} {k : Nat} {a : Nat × Nat} (ha : R[k]? = some a) (s : Nat) : kpB R (k + 1) s = (kpB R k s || (s == a.2)) := by
  rw [Bool.eq_iff_iff, Bool.or_eq_true, kpB_t, kpB_t, beq_iff_eq]
  constructor
  · rintro ⟨j, b, hj, hb, e⟩
    by_cases q : j = k
    · subst q
      rw [ha] at hb
      cases hb
      exact Or.inr e.symm
    · exact Or.inl ⟨j, b, by omega, hb, e⟩
  · rintro (⟨j, b, hj, hb, e⟩ | e)
    · exact ⟨j, b, by omega, hb, e⟩
    · exact ⟨k, a, by omega, ha, e.symm⟩
def frB (R : wy) (W : Nat → wy) (k s : Nat) : Bool := goW W s && !(kpB R k s)
/-- the least of the free ones so far -/
def BS (R : wy) (W : Nat → wy) (k j : Nat) : Option Nat → Prop
  | none => ∀ s, s < j → frB R W k s = false
  | some b => b < j ∧ frB R W k b = true ∧ ∀ s, s < j → frB R W k s = true → ¬ s = b → lx (hd (W b), b) (hd (W s), s)
def bsI (i : Nat) : Option Nat → Int32
  | none => -1
  | some b => nI (400 * i + b)
/-- only the marks of place i have changed -/
def K1 (z z' : st_T) (i : Nat) : Prop := (∀ q, q < 400 * i ∨ 400 * i + 400 ≤ q → z'.2.1 122 q = z.2.1 122 q) ∧ mm [] [122] z z'
theorem BS_end {R : wy} {W : Nat → wy} {m n k : Nat} (hR : R = nrw m W n) {a : Nat × Nat} (ha : R[k]? = some a) {o : Option Nat} (h : BS R W k n o) : o = some a.2 := by
  subst hR
  obtain ⟨-, -, k3, k4⟩ := nrw_ok m W n
  obtain ⟨l1, l2⟩ := nrw_lx m W n
  have ham := List.mem_of_getElem? ha
  obtain ⟨a1, a2, a3⟩ := k3 a ham
  have hfr : frB (nrw m W n) W k a.2 = true := by
    unfold frB
    rw [a2, Bool.true_and, Bool.not_eq_true']
    refine Bool.eq_false_iff.mpr (fun q => ?_)
    obtain ⟨j, b, hj, hb, e⟩ := kpB_t.mp q
    have h1 : ((nrw m W n).map Prod.snd)[j]? = some a.2 := by rw [List.getElem?_map, hb]; exact congrArg some e
    have h2 : ((nrw m W n).map Prod.snd)[k]? = some a.2 := by rw [List.getElem?_map, ha]; rfl
    have hj2 := (List.getElem?_eq_some_iff.mp h1).1
    have := (List.getElem?_inj hj2 k4).mp (h1.trans h2.symm)
    omega
  cases o with
  | none =>
    have := h a.2 a1
    rw [hfr] at this; cases this
  | some b =>
    obtain ⟨b1, b2, b3⟩ := h
    by_cases e : b = a.2
    · rw [e]
    · have hab := b3 a.2 a1 hfr (fun q => e q.symm)
      rw [← a3] at hab
      -- but a is before b
      unfold frB at b2
      rw [Bool.and_eq_true, Bool.not_eq_true'] at b2
      have hba : lx a (hd (W b), b) := by
        by_cases q : inB (nrw m W n) b
        · obtain ⟨c, hc, e2⟩ := q
          obtain ⟨j, hj⟩ := List.mem_iff_getElem?.mp hc
          have hcE : c = (hd (W b), b) := Prod.ext (by rw [(k3 c hc).2.2, e2]) e2
          have hjk : k < j := by
            rcases Nat.lt_trichotomy j k with h | h | h
            · have := kpB_t.mpr ⟨j, c, h, hj, e2⟩
              rw [b2.2] at this; cases this
            · subst h
              rw [ha] at hj
              cases hj
              exact absurd e2.symm e
            · exact h
          obtain ⟨hkl, hke⟩ := List.getElem?_eq_some_iff.mp ha
          obtain ⟨hjl, hje⟩ := List.getElem?_eq_some_iff.mp hj
          have := List.pairwise_iff_getElem.mp l1 k j hkl hjl hjk
          rw [hke, hje, hcE] at this
          exact this
        · exact (l2 b b1 b2.1 q).2 a ham
      exact absurd (lx_tr hab hba) lx_ir
