/-! the class's part of the heap holds what is told -/
def TW (T : tT) : Prop := (1 ≤ T 8 2 ∧ T 8 2 ≤ 16) ∧ T 8 0 < 12 ∧ T 8 1 ≤ 1 ∧ (∀ j, j < 64 → T 0 j = 0 ∨ (36 ≤ T 0 j ∧ T 0 j ≤ 84)) ∧ (∀ i, i < 16 → T 1 i ≤ 13 ∧ T 2 i ≤ 4 ∧ T 3 i ≤ 1) ∧ (∀ c, c < 13 → T 4 c ≤ 1) ∧ (∀ k, k < 9 → T 5 k ≤ 1000) ∧ (∀ v, v < 4 → 36 ≤ T 6 v ∧ T 6 v ≤ T 7 v ∧ T 7 v ≤ 84) ∧ (∀ i, T 8 2 ≤ i → i < 16 → (∀ v, v < 4 → T 0 (4 * i + v) = 0) ∧ T 1 i = 0 ∧ T 2 i = 0 ∧ T 3 i = 0)
def sty (T : tT) : Nat → Bool := fun c => T 4 c == 1
/-- Score holds it -/
def RS (z : st_T) (T : tT) : Prop := (∀ j, j < 64 → z.2.1 2 j = nC (T 0 j)) ∧ (∀ i, i < 16 → z.2.1 3 i = nD (T 1 i) ∧ z.2.1 4 i = nD (T 2 i) ∧ z.2.1 5 i = nI (T 3 i)) ∧ (∀ k, k < 9 → z.2.1 6 k = nI (T 5 k)) ∧ (∀ v, v < 4 → z.2.1 7 v = nI (T 6 v) ∧ z.2.1 8 v = nI (T 7 v)) ∧ z.1 1 0 = nI (T 8 2) ∧ z.1 1 1 = nI (msk (sty T) 13)
/-- Harmony holds it -/
def RH (z : st_T) (T : tT) : Prop := z.1 9 0 = nI (T 8 0) ∧ z.1 9 1 = nI (T 8 1) ∧ z.1 9 2 = nI ((T 8 0 + 11) % 12) ∧ (∀ c k, c < 13 → k < 4 → z.2.1 10 (4 * c + k) = n9 (tmem T c k)) ∧ (∀ k p, k < 4 → p < 12 → z.2.1 11 (12 * k + p) = nI (msk (fun c => tmem T c k == p) 13)) ∧ (∀ p, p < 12 → z.2.1 12 p = nI (msk (fun c => decide (tmof T c p < 4)) 13)) ∧ (∀ a b, a < 13 → b < 13 → z.2.1 13 (16 * a + b) = nU (unt a b))
theorem ix4 {c k : Nat} : nI c * 4 + nI k = nI (4 * c + k) := by rw [show (4 : Int32) = nI 4 from rfl, pk_mul, nI_add, Nat.mul_comm]
theorem ix16 {c k : Nat} : nI c * 16 + nI k = nI (16 * c + k) := by rw [show (16 : Int32) = nI 16 from rfl, pk_mul, nI_add, Nat.mul_comm]
theorem ix12 {c k : Nat} : nI c * 12 + nI k = nI (12 * c + k) := by rw [show (12 : Int32) = nI 12 from rfl, pk_mul, nI_add, Nat.mul_comm]
theorem rem12 {a : Nat} (ha : a < 2 ^ 31) : nI a - nI a / 12 * 12 = nI (a % 12) := pk_rem ha (by decide) (by decide)
theorem cl31 {n : Nat} (h : n < 2 ^ 31) : (nI n).toNatClampNeg = n := nI_clamp h
theorem e1_memberClass (l : Launch) (z : st_T) (T : tT) (hR : RH z T) {c k : Nat} (hc : c < 13) (hk : k < 4) : ri_Ev l y1_memberClass w1_memberClass r1_memberClass 0 0 [.ref 25, .int (nI c), .int (nI k)] (st_h z) (ri_is (n9 (tmem T c k)) (st_h z)) := by
  refine ri_ev (t1_memberClass l _) rfl rfl rfl (Nat.le_of_ble_eq_true rfl) rfl (z1_memberClass l _) (fun J hJ => ?_)
  refine ri_run_ok hJ [] 20 0 0 0 _ _ _ ?_
  have e := ix4 (c := c) (k := k)
  refine ⟨?_, ?_, rfl⟩
  · show vp_in (nI c * 4 + nI k) 64
    rw [e]; exact vp_in_nI (by omega) (by decide)
  · show some (Value.int (z.2.1 10 (nI c * 4 + nI k).toNatClampNeg)) = _
    rw [e, cl31 (by omega), hR.2.2.2.1 c k hc hk]
theorem e1_unitsBetween (l : Launch) (z : st_T) (T : tT) (hR : RH z T) {a b : Nat} (ha : a < 13) (hb : b < 13) : ri_Ev l y1_unitsBetween w1_unitsBetween r1_unitsBetween 0 0 [.ref 25, .int (nI a), .int (nI b)] (st_h z) (ri_is (nU (unt a b)) (st_h z)) := by
  refine ri_ev (t1_unitsBetween l _) rfl rfl rfl (Nat.le_of_ble_eq_true rfl) rfl (z1_unitsBetween l _) (fun J hJ => ?_)
  refine ri_run_ok hJ [] 20 0 0 0 _ _ _ ?_
  have e := ix16 (c := a) (k := b)
  refine ⟨?_, ?_, rfl⟩
  · show vp_in (nI a * 16 + nI b) 256
    rw [e]; exact vp_in_nI (by omega) (by decide)
  · show some (Value.int (z.2.1 13 (nI a * 16 + nI b).toNatClampNeg)) = _
    rw [e, cl31 (by omega), hR.2.2.2.2.2.2 a b ha hb]
theorem e1_chordsWith (l : Launch) (z : st_T) (T : tT) (hR : RH z T) {p : Nat} (hp : p < 200) : ri_Ev l y1_chordsWith w1_chordsWith r1_chordsWith 0 0 [.ref 25, .int (nI p)] (st_h z) (ri_is (nI (msk (fun c => decide (tmof T c p < 4)) 13)) (st_h z)) := by
  refine ri_ev (t1_chordsWith l _) rfl rfl rfl (Nat.le_of_ble_eq_true rfl) rfl (z1_chordsWith l _) (fun J hJ => ?_)
  refine ri_run_ok hJ [] 20 0 0 0 _ _ _ ?_
  have e := rem12 (a := p) (by omega)
  refine ⟨by decide, ?_, ?_, rfl⟩
  · show vp_in (nI p - nI p / 12 * 12) 12
    rw [e]; exact vp_in_nI (Nat.mod_lt _ (by decide)) (by decide)
  · show some (Value.int (z.2.1 12 (nI p - nI p / 12 * 12).toNatClampNeg)) = _
    have hm : p % 12 < 12 := Nat.mod_lt _ (by decide)
    rw [e, cl31 (by omega), hR.2.2.2.2.2.1 _ hm]
    have e2 : ∀ c, tmof T c (p % 12) = tmof T c p := fun c => by unfold tmof; rw [Nat.mod_mod]
    simp only [e2]
theorem e1_chordsWithMember (l : Launch) (z : st_T) (T : tT) (hR : RH z T) {k p : Nat} (hk : k < 4) (hp : p < 200) : ri_Ev l y1_chordsWithMember w1_chordsWithMember r1_chordsWithMember 0 0 [.ref 25, .int (nI k), .int (nI p)] (st_h z) (ri_is (nI (msk (fun c => tmem T c k == p % 12) 13)) (st_h z)) := by
  refine ri_ev (t1_chordsWithMember l _) rfl rfl rfl (Nat.le_of_ble_eq_true rfl) rfl (z1_chordsWithMember l _) (fun J hJ => ?_)
  refine ri_run_ok hJ [] 20 0 0 0 _ _ _ ?_
  have hm : p % 12 < 12 := Nat.mod_lt _ (by decide)
  have e : nI k * 12 + (nI p - nI p / 12 * 12) = nI (12 * k + p % 12) := by rw [rem12 (by omega), ix12]
  refine ⟨by decide, ?_, ?_, rfl⟩
  · show vp_in (nI k * 12 + (nI p - nI p / 12 * 12)) 48
    rw [e]; exact vp_in_nI (by omega) (by decide)
  · show some (Value.int (z.2.1 11 (nI k * 12 + (nI p - nI p / 12 * 12)).toNatClampNeg)) = _
    rw [e, cl31 (by omega), hR.2.2.2.2.1 k _ hk hm]
