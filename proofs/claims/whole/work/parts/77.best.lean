/-! the k best: lists of (sum, link) in order; arrays that hold them -/
abbrev wy : Type := List (Nat × Nat)
def insr (a : Nat × Nat) : wy → wy
  | [] => [a]
  | b :: r => if b.1 ≤ a.1 then b :: insr a r else a :: b :: r
def insk (m : Nat) (L : wy) (a : Nat × Nat) : wy := (insr a L).take m
def Srt (L : wy) : Prop := ∀ (j j' : Nat) (a b : Nat × Nat), j < j' → L[j]? = some a → L[j']? = some b → a.1 ≤ b.1
theorem insr_at {a : Nat × Nat} : ∀ (L : wy) (p : Nat), p ≤ L.length → (∀ j b, j < p → L[j]? = some b → b.1 ≤ a.1) → (∀ b, L[p]? = some b → a.1 < b.1) → ∀ j : Nat, (insr a L)[j]? = if j < p then L[j]? else if j = p then some a else L[j - 1]?
  | [], p, hp, _, _, j => by
    have h0 : p = 0 := by simpa using hp
    subst h0
    show ([a] : wy)[j]? = _
    match j with
    | 0 => rfl
    | j + 1 => rfl
  | b :: r, p, hp, h1, h2, j => by
    unfold insr
    match p with
    | 0 =>
      have hb : a.1 < b.1 := h2 b rfl
      rw [if_neg (by omega)]
      match j with
      | 0 => rfl
      | j + 1 => rfl
    | p + 1 =>
      have hb : b.1 ≤ a.1 := h1 0 b (by omega) rfl
      rw [if_pos hb]
      match j with
      | 0 => rfl
      | j + 1 =>
        show (insr a r)[j]? = _
        rw [insr_at r p (by simpa using hp) (fun j' c hj hc => h1 (j' + 1) c (by omega) hc) (fun c hc => h2 c hc) j]
        by_cases q : j < p
        · rw [if_pos q, if_pos (by omega)]; rfl
        · rw [if_neg q]
          by_cases q2 : j = p
          · rw [if_pos q2, if_neg (show ¬ j + 1 < p + 1 by omega), if_pos (show j + 1 = p + 1 by omega)]
          · rw [if_neg q2, if_neg (show ¬ j + 1 < p + 1 by omega), if_neg (show ¬ j + 1 = p + 1 by omega)]
            match j with
            | 0 => exact absurd rfl (show ¬ (0 : Nat) = 0 by omega)
            | j + 1 => rfl
theorem insr_pos {a : Nat × Nat} : ∀ L : wy, ∃ p, p ≤ L.length ∧ (∀ j b, j < p → L[j]? = some b → b.1 ≤ a.1) ∧ (∀ b, L[p]? = some b → a.1 < b.1)
  | [] => ⟨0, Nat.le_refl _, fun j b hj _ => absurd hj (by omega), fun b hb => by cases hb⟩
  | b :: r => by
    by_cases h : b.1 ≤ a.1
    · obtain ⟨p, h1, h2, h3⟩ := insr_pos (a := a) r
      refine ⟨p + 1, by simpa using h1, fun j c hj hc => ?_, h3⟩
      match j with
      | 0 => cases hc; exact h
      | j + 1 => exact h2 j c (by omega) hc
    · exact ⟨0, Nat.zero_le _, fun j c hj _ => absurd hj (by omega), fun c hc => by cases hc; omega⟩
theorem insr_len {a : Nat × Nat} : ∀ L : wy, (insr a L).length = L.length + 1
  | [] => rfl
  | b :: r => by
    unfold insr
    by_cases h : b.1 ≤ a.1
    · rw [if_pos h, List.length_cons, insr_len r, List.length_cons]
    · rw [if_neg h]; rfl
theorem insk_len {a : Nat × Nat} (m : Nat) (L : wy) : (insk m L a).length = min m (L.length + 1) := by
  unfold insk; rw [List.length_take, insr_len]
theorem insr_srt {a : Nat × Nat} {L : wy} (h : Srt L) : Srt (insr a L) := by
  obtain ⟨p, h1, h2, h3⟩ := insr_pos (a := a) L
  have hat := insr_at L p h1 h2 h3
  intro j j' c d hj hc hd
  rw [hat] at hc hd
  have hgt : ∀ j b, p ≤ j → L[j]? = some b → a.1 < b.1 := by
    intro j b hp hb
    by_cases q : p = j
    · subst q; exact h3 b hb
    · have hl := (List.getElem?_eq_some_iff.mp hb).1
      have := h3 _ (List.getElem?_eq_getElem (show p < L.length by omega))
      have := h p j _ b (by omega) (List.getElem?_eq_getElem (show p < L.length by omega)) hb
      omega
  by_cases a1 : j < p
  · rw [if_pos a1] at hc
    by_cases b1 : j' < p
    · rw [if_pos b1] at hd; exact h j j' c d hj hc hd
    · rw [if_neg b1] at hd
      by_cases b2 : j' = p
      · rw [if_pos b2] at hd; cases hd; exact h2 j c a1 hc
      · rw [if_neg b2] at hd
        exact Nat.le_trans (h2 j c a1 hc) (Nat.le_of_lt (hgt _ d (by omega) hd))
  · rw [if_neg a1] at hc
    rw [if_neg (by omega)] at hd
    by_cases a2 : j = p
    · rw [if_pos a2] at hc; cases hc
      rw [if_neg (by omega)] at hd
      exact Nat.le_of_lt (hgt _ d (by omega) hd)
    · rw [if_neg a2] at hc
      rw [if_neg (by omega)] at hd
      exact h _ _ c d (by omega) hc hd
theorem insk_srt {a : Nat × Nat} {m : Nat} {L : wy} (h : Srt L) : Srt (insk m L a) := by
  intro j j' c d hj hc hd
  unfold insk at hc hd
  rw [List.getElem?_take] at hc hd
  by_cases a1 : j < m
  · by_cases a2 : j' < m
    · rw [if_pos a1] at hc
      rw [if_pos a2] at hd
      exact insr_srt h j j' c d hj hc hd
    · rw [if_neg a2] at hd; cases hd
  · rw [if_neg a1] at hc; cases hc
/-- an array of ints at place p -/
def AR (p N : Nat) : Prop := N < 2 ^ 31 ∧ ∀ z : st_T, ri_at (st_h z) (16 + p) = some (.inl (0, N, .inl (z.2.1 p))) ∧ ∀ g, (st_h z).set p (.inl (0, N, .inl g)) = st_h (fa z p g)
theorem AR_lk {i : Nat} (hi : i < 16) : AR (78 + i) 1600 := ⟨by decide, fun z => lk_arr hi z⟩
def sA (b : Bool) : Nat := bif b then 95 else 94
def lA (b : Bool) : Nat := bif b then 94 else 95
theorem AR_sA (b : Bool) : AR (sA b) 1600 := by cases b <;> exact ⟨by decide, fun z => ⟨rfl, fun _ => rfl⟩⟩
theorem AR_lA (b : Bool) : AR (lA b) 1600 := by cases b <;> exact ⟨by decide, fun z => ⟨rfl, fun _ => rfl⟩⟩
theorem AR_96 : AR 96 400 := ⟨by decide, fun z => ⟨rfl, fun _ => rfl⟩⟩
theorem AR_97 : AR 97 100 := ⟨by decide, fun z => ⟨rfl, fun _ => rfl⟩⟩
theorem AR_98 : AR 98 4 := ⟨by decide, fun z => ⟨rfl, fun _ => rfl⟩⟩
theorem AR_99 : AR 99 4 := ⟨by decide, fun z => ⟨rfl, fun _ => rfl⟩⟩
theorem AR_100 : AR 100 64 := ⟨by decide, fun z => ⟨rfl, fun _ => rfl⟩⟩
theorem sA_r (b : Bool) : (bif b then 111 else 110) = 16 + sA b := by cases b <;> rfl
theorem lA_r (b : Bool) : (bif b then 110 else 111) = 16 + lA b := by cases b <;> rfl
section JR2
variable {tab : List ri_S} {J : ri_K} {U V : Nat} {L : ri_L} {r : List Value} {z : st_T} {k n : Nat}
theorem J_aget (hJ : ri_clo J tab) (hf : tab[k]? = some (i_ald n 0)) {p N j : Nat} (hp : AR p N) (hj : j < N) (hn : J n U V L (.int (z.2.1 p j) :: r) (st_h z)) : J k U V L (.int (nI j) :: .ref (16 + p) :: r) (st_h z) := by
  have hN := hp.1
  refine ri_go hJ [] 0 k hf ?_
  unfold i_ald
  simp only [(hp.2 z).1, cl31 (show j < 2 ^ 31 by omega)]
  exact ⟨vp_in_nI hj hN, hn⟩
theorem J_aset (hJ : ri_clo J tab) (hf : tab[k]? = some (i_ast n 0 (fun x => x))) {p N j : Nat} {x : Int32} (hp : AR p N) (hj : j < N) (hn : J n U V L r (st_h (fa z p (upd (z.2.1 p) j x)))) : J k U V L (.int x :: .int (nI j) :: .ref (16 + p) :: r) (st_h z) := by
  have hN := hp.1
  refine ri_go hJ [] 0 k hf ?_
  unfold i_ast
  simp only [(hp.2 z).1, cl31 (show j < 2 ^ 31 by omega), b16 16 p (by decide), show 16 + p - 16 = p by omega, (hp.2 z).2]
  exact ⟨vp_in_nI hj hN, hn⟩
end JR2
/-- the arrays hold the list at q: its sums, its links; -1 behind -/
def RW (f g : Nat → Int32) (q : Nat) (L : wy) : Prop := (∀ (j : Nat) (a : Nat × Nat), L[j]? = some a → j < 4 → f (q + j) = nI a.1 ∧ g (q + j) = nI a.2) ∧ (∀ j, L.length ≤ j → j < 4 → g (q + j) = -1)
def BD (B : Nat) (L : wy) : Prop := ∀ (j : Nat) (a : Nat × Nat), L[j]? = some a → a.1 < B ∧ a.2 < 2 ^ 31
theorem e8_insert (l : Launch) {ps pl Ns Nl : Nat} (hs : AR ps Ns) (hl : AR pl Nl) (hne : ps ≠ pl) (z : st_T) {q t k : Nat} {L : wy} (h4 : L.length ≤ 4) (hqs : q + 4 ≤ Ns) (hql : q + 4 ≤ Nl) (ht : t < 2 ^ 31) (hL : RW (z.2.1 ps) (z.2.1 pl) q L) (hS : Srt L) (hb : BD (2 ^ 31) L) : ri_Ev l y8_insert w8_insert r8_insert 0 0 [.ref (16 + ps), .ref (16 + pl), .int (nI q), .int (nI t), .int (nI k)] (st_h z) (ri_zbx fun b z' => RW (z'.2.1 ps) (z'.2.1 pl) q (insk 4 L (t, k)) ∧ (∀ j, (j < q ∨ q + 4 ≤ j) → z'.2.1 ps j = z.2.1 ps j ∧ z'.2.1 pl j = z.2.1 pl j) ∧ md [ps, pl] z z' ∧ (b = false → ∃ a, L[3]? = some a ∧ a.1 ≤ t)) := by
  refine ri_ev (t8_insert l _) rfl rfl rfl (Nat.le_of_ble_eq_true rfl) rfl (z8_insert l _) (fun J hJ => ?_)
  have hNs := hs.1
  have hNl := hl.1
  have k53 : ∀ p : Nat, p < 4 → p ≤ L.length → (∀ (j : Nat) (a : Nat × Nat), j < p → L[j]? = some a → a.1 ≤ t) → (∀ a : Nat × Nat, L[p]? = some a → t < a.1) → ∀ z1, (∀ j, j ≤ p → z1.2.1 ps (q + j) = z.2.1 ps (q + j) ∧ z1.2.1 pl (q + j) = z.2.1 pl (q + j)) → (∀ j, p < j → j < 4 → z1.2.1 ps (q + j) = z.2.1 ps (q + j - 1) ∧ z1.2.1 pl (q + j) = z.2.1 pl (q + j - 1)) → (∀ j, (j < q ∨ q + 4 ≤ j) → z1.2.1 ps j = z.2.1 ps j ∧ z1.2.1 pl j = z.2.1 pl j) → md [ps, pl] z z1 → J 53 0 0 [some (.ref (16 + ps)), some (.ref (16 + pl)), some (.int (nI q)), some (.int (nI t)), some (.int (nI k)), some (.int (nI (q + p)))] [] (st_h z1) := by
    intro p hp hpl hle hgtp z1 hlo hhi hfr hm
    have hat := insr_at (a := (t, k)) L p hpl hle hgtp
    have k61 : ∀ z2, z2.2.1 ps = upd (z1.2.1 ps) (q + p) (nI t) → z2.2.1 pl = upd (z1.2.1 pl) (q + p) (nI k) → md [ps, pl] z z2 → J 61 0 0 [some (.ref (16 + ps)), some (.ref (16 + pl)), some (.int (nI q)), some (.int (nI t)), some (.int (nI k)), some (.int (nI (q + p)))] [] (st_h z2) := by
      intro z2 e1 e2 hm2
      refine ri_go hJ [] 90 61 rfl ?_
      refine ⟨rfl, true, z2, rfl, rfl, ⟨fun j a ha hj => ?_, fun j hj hj4 => ?_⟩, fun j hj => ?_, hm2, fun h => Bool.noConfusion h⟩
      · unfold insk at ha
        rw [List.getElem?_take, if_pos hj, hat] at ha
        rw [e1, e2]
        by_cases a1 : j < p
        · rw [if_pos a1] at ha
          rw [pk_un (by omega), pk_un (by omega), (hlo j (by omega)).1, (hlo j (by omega)).2]
          exact hL.1 j a ha hj
        · rw [if_neg a1] at ha
          by_cases a2 : j = p
          · rw [if_pos a2] at ha
            cases ha
            rw [a2, pk_us, pk_us]
            exact ⟨rfl, rfl⟩
          · rw [if_neg a2] at ha
            rw [pk_un (by omega), pk_un (by omega), (hhi j (by omega) hj).1, (hhi j (by omega) hj).2, show q + j - 1 = q + (j - 1) by omega]
            exact hL.1 (j - 1) a ha (by omega)
      · rw [insk_len] at hj
        rw [e2, pk_un (by omega), (hhi j (by omega) hj4).2, show q + j - 1 = q + (j - 1) by omega]
        exact hL.2 (j - 1) (by omega) (by omega)
      · rw [e1, e2, pk_un (by omega), pk_un (by omega)]
        exact hfr j hj
    refine ri_go hJ [56] 90 53 rfl ?_
    refine J_aset hJ rfl hs (by omega) ?_
    refine ri_go hJ [60] 90 57 rfl ?_
    refine J_aset hJ rfl hl (by omega) ?_
    refine k61 _ ?_ ?_ (md_tr hm (md_tr (md_fa (by simp)) (md_fa (by simp))))
    · rw [fa_ne _ _ hne, fa_self]
    · rw [fa_self, fa_ne _ _ (Ne.symm hne)]
  have loop : ∀ p : Nat, p < 4 → (∀ a : Nat × Nat, L[p]? = some a → t < a.1) → ∀ z1, (∀ j, j ≤ p → z1.2.1 ps (q + j) = z.2.1 ps (q + j) ∧ z1.2.1 pl (q + j) = z.2.1 pl (q + j)) → (∀ j, p < j → j < 4 → z1.2.1 ps (q + j) = z.2.1 ps (q + j - 1) ∧ z1.2.1 pl (q + j) = z.2.1 pl (q + j - 1)) → (∀ j, (j < q ∨ q + 4 ≤ j) → z1.2.1 ps j = z.2.1 ps j ∧ z1.2.1 pl j = z.2.1 pl j) → md [ps, pl] z z1 → J 18 0 0 [some (.ref (16 + ps)), some (.ref (16 + pl)), some (.int (nI q)), some (.int (nI t)), some (.int (nI k)), some (.int (nI (q + p)))] [] (st_h z1) := by
    intro p
    induction p with
    | zero =>
      intro _ hgtp z1 hlo hhi hfr hm
      refine ri_go hJ [53] 90 18 rfl ?_
      exact ⟨fun _ => k53 0 (by decide) (Nat.zero_le _) (fun j a hj _ => absurd hj (by omega)) hgtp z1 hlo hhi hfr hm, fun c => absurd (nI_le (Nat.le_refl _) (by omega)) c⟩
    | succ p ih =>
      intro hp hgtp z1 hlo hhi hfr hm
      have em : nI (q + (p + 1)) - 1 = nI (q + p) := nI_pred (q + p)
      have e_1 : nI (q + (p + 1)) + (-1) = nI (q + p) := pk_m1 (q + p)
      -- the move
      have k35 : (∀ a : Nat × Nat, L[p]? = some a → t < a.1) → J 35 0 0 [some (.ref (16 + ps)), some (.ref (16 + pl)), some (.int (nI q)), some (.int (nI t)), some (.int (nI k)), some (.int (nI (q + (p + 1))))] [] (st_h z1) := by
        intro hg2
        have k51 : ∀ z2, z2.2.1 ps = upd (z1.2.1 ps) (q + (p + 1)) (z1.2.1 ps (q + p)) → z2.2.1 pl = upd (z1.2.1 pl) (q + (p + 1)) (z1.2.1 pl (q + p)) → md [ps, pl] z z2 → J 51 0 0 [some (.ref (16 + ps)), some (.ref (16 + pl)), some (.int (nI q)), some (.int (nI t)), some (.int (nI k)), some (.int (nI (q + (p + 1))))] [] (st_h z2) := by
          intro z2 e1 e2 hm2
          refine ri_go hJ [18] 90 51 rfl ?_
          have := ih (by omega) hg2 z2 (fun j hj => ?_) (fun j hj hj4 => ?_) (fun j hj => ?_) hm2
          · rw [← e_1] at this
            exact this
          · rw [e1, e2, pk_un (by omega), pk_un (by omega)]; exact hlo j (by omega)
          · rw [e1, e2]
            by_cases a1 : j = p + 1
            · rw [a1, pk_us, pk_us, show q + (p + 1) - 1 = q + p by omega]; exact hlo p (by omega)
            · rw [pk_un (by omega), pk_un (by omega)]; exact hhi j (by omega) hj4
          · rw [e1, e2, pk_un (by omega), pk_un (by omega)]; exact hfr j hj
        refine ri_go hJ [41] 90 35 rfl ?_
        show J 41 0 0 _ [.int (nI (q + (p + 1)) - 1), .ref (16 + ps), .int (nI (q + (p + 1))), .ref (16 + ps)] _
        rw [em]
        refine J_aget hJ rfl hs (by omega) ?_
        refine J_aset hJ rfl hs (by omega) ?_
        refine ri_go hJ [49] 90 43 rfl ?_
        show J 49 0 0 _ [.int (nI (q + (p + 1)) - 1), .ref (16 + pl), .int (nI (q + (p + 1))), .ref (16 + pl)] _
        rw [em]
        refine J_aget hJ rfl hl (by omega) ?_
        refine J_aset hJ rfl hl (by omega) ?_
        refine k51 _ ?_ ?_ (md_tr hm (md_tr (md_fa (by simp)) (md_fa (by simp))))
        · rw [fa_ne _ _ hne, fa_self]
        · rw [fa_self, fa_ne _ _ (Ne.symm hne)]
      have k33 : ∀ a : Nat × Nat, L[p]? = some a → J 33 0 0 [some (.ref (16 + ps)), some (.ref (16 + pl)), some (.int (nI q)), some (.int (nI t)), some (.int (nI k)), some (.int (nI (q + (p + 1))))] [.int (z1.2.1 ps (q + p))] (st_h z1) := by
        intro a ha
        have hv : z1.2.1 ps (q + p) = nI a.1 := by rw [(hlo p (by omega)).1]; exact (hL.1 p a ha (by omega)).1
        have hba := (hb p a ha).1
        rw [hv]
        refine ri_go hJ [53, 35] 90 33 rfl ?_
        refine ⟨fun c => k53 (p + 1) hp ((List.getElem?_eq_some_iff.mp ha).1) (fun j b hj hbj => ?_) hgtp z1 hlo hhi hfr hm, fun c => k35 (fun b hb2 => ?_)⟩
        · have c : nI a.1 ≤ nI t := c
          rw [nn_le hba ht] at c
          by_cases a1 : j = p
          · rw [a1, ha] at hbj; cases hbj; exact c
          · exact Nat.le_trans (hS j p b a (by omega) hbj ha) c
        · have c : ¬ nI a.1 ≤ nI t := c
          rw [nn_le hba ht] at c
          rw [ha] at hb2; cases hb2; omega
      have k26 : J 26 0 0 [some (.ref (16 + ps)), some (.ref (16 + pl)), some (.int (nI q)), some (.int (nI t)), some (.int (nI k)), some (.int (nI (q + (p + 1))))] [.int (z1.2.1 pl (q + p))] (st_h z1) := by
        refine ri_go hJ [35, 32] 90 26 rfl ?_
        refine ⟨fun c => k35 (fun a ha => ?_), fun c => ?_⟩
        · have c : z1.2.1 pl (q + p) = -1 := c
          rw [(hlo p (by omega)).2, (hL.1 p a ha (by omega)).2] at c
          exact absurd c (nI_m1 (hb p a ha).2)
        · have c : ¬ z1.2.1 pl (q + p) = -1 := c
          obtain ⟨a, ha⟩ : ∃ a, L[p]? = some a := by
            rcases Nat.lt_or_ge p L.length with h | h
            · exact ⟨_, List.getElem?_eq_getElem h⟩
            · exact absurd (by rw [(hlo p (by omega)).2]; exact hL.2 p h (by omega)) c
          show J 32 0 0 _ [.int (nI (q + (p + 1)) - 1), .ref (16 + ps)] _
          rw [em]
          exact J_aget hJ rfl hs (by omega) (k33 a ha)
      refine ri_go hJ [53, 25] 90 18 rfl ?_
      refine ⟨fun c => absurd (show nI (q + (p + 1)) ≤ nI q from c) (nI_ge (by omega) (by omega)), fun _ => ?_⟩
      show J 25 0 0 _ [.int (nI (q + (p + 1)) - 1), .ref (16 + pl)] _
      rw [em]
      exact J_aget hJ rfl hl (by omega) k26
  have start : (∀ a : Nat × Nat, L[3]? = some a → t < a.1) → J 18 0 0 [some (.ref (16 + ps)), some (.ref (16 + pl)), some (.int (nI q)), some (.int (nI t)), some (.int (nI k)), some (.int (nI (q + 3)))] [] (st_h z) := fun h3 => loop 3 (by decide) h3 z (fun j _ => ⟨rfl, rfl⟩) (fun j h1 h2 => absurd h1 (by omega)) (fun j _ => ⟨rfl, rfl⟩) (md_rf _ _)
  have eat : nI q + 4 - 1 = nI (q + 3) := by
    rw [show (4 : Int32) = nI 4 from rfl, nI_add, show q + 4 = (q + 3) + 1 by omega]; exact nI_pred _
  have k14 : ∀ a : Nat × Nat, L[3]? = some a → J 14 0 0 [some (.ref (16 + ps)), some (.ref (16 + pl)), some (.int (nI q)), some (.int (nI t)), some (.int (nI k)), some (.int (nI (q + 3)))] [.int (z.2.1 ps (q + 3))] (st_h z) := by
    intro a ha
    rw [(hL.1 3 a ha (by decide)).1]
    have hba := (hb 3 a ha).1
    refine ri_go hJ [18] 90 14 rfl ?_
    refine ⟨fun c => start (fun b hb2 => ?_), fun c => ⟨rfl, false, z, rfl, rfl, ?_, fun j _ => ⟨rfl, rfl⟩, md_rf _ _, fun _ => ⟨a, ha, ?_⟩⟩⟩
    · have c : nI t < nI a.1 := c
      rw [nn_lt ht hba] at c
      rw [ha] at hb2; cases hb2; exact c
    · have c : ¬ nI t < nI a.1 := c
      rw [nn_lt ht hba] at c
      have hlen : L.length = 4 := by
        have := (List.getElem?_eq_some_iff.mp ha).1
        omega
      have hat := insr_at (a := (t, k)) L 4 (by omega) (fun j b hj hbj => by
        by_cases a1 : j = 3
        · rw [a1, ha] at hbj; cases hbj; show a.1 ≤ t; omega
        · exact Nat.le_trans (hS j 3 b a (by omega) hbj ha) (show a.1 ≤ t by omega)) (fun b hb2 => by
        have := (List.getElem?_eq_some_iff.mp hb2).1; omega)
      have e : insk 4 L (t, k) = L := by
        apply List.ext_getElem?
        intro j
        unfold insk
        rw [List.getElem?_take]
        by_cases hj : j < 4
        · rw [if_pos hj, hat, if_pos hj]
        · rw [if_neg hj, List.getElem?_eq_none (by omega)]
      rw [e]; exact hL
    · have c : ¬ nI t < nI a.1 := c
      rw [nn_lt ht hba] at c
      omega
  have k9 : J 9 0 0 [some (.ref (16 + ps)), some (.ref (16 + pl)), some (.int (nI q)), some (.int (nI t)), some (.int (nI k)), some (.int (nI (q + 3)))] [.int (z.2.1 pl (q + 3))] (st_h z) := by
    refine ri_go hJ [18, 13] 90 9 rfl ?_
    refine ⟨fun c => start (fun a ha => ?_), fun c => ?_⟩
    · have c : z.2.1 pl (q + 3) = -1 := c
      rw [(hL.1 3 a ha (by decide)).2] at c
      exact absurd c (nI_m1 (hb 3 a ha).2)
    · have c : ¬ z.2.1 pl (q + 3) = -1 := c
      obtain ⟨a, ha⟩ : ∃ a, L[3]? = some a := by
        rcases Nat.lt_or_ge 3 L.length with h | h
        · exact ⟨_, List.getElem?_eq_getElem h⟩
        · exact absurd (hL.2 3 h (by decide)) c
      exact J_aget hJ rfl hs (by omega) (k14 a ha)
  refine ri_run_ok hJ [8] 90 0 0 0 _ _ _ ?_
  show J 8 0 0 [some (.ref (16 + ps)), some (.ref (16 + pl)), some (.int (nI q)), some (.int (nI t)), some (.int (nI k)), some (.int (nI q + 4 - 1))] [.int (nI q + 4 - 1), .ref (16 + pl)] _
  rw [eat]
  exact J_aget hJ rfl hl (by omega) k9
