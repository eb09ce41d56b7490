/-! steps at layers and at rows of links, whose place isn't a numeral -/
theorem ly_obj {p : Nat} (hp : lyP p) (z : st_T) : ri_at (st_h z) (16 + p) = some (.inr (5, [.int (z.1 p 0), .ref (17 + p), .ref (18 + p)])) := lyP_cases (P := fun p => ri_at (st_h z) (16 + p) = some (.inr (5, [.int (z.1 p 0), .ref (17 + p), .ref (18 + p)]))) hp rfl rfl rfl rfl rfl rfl rfl rfl rfl rfl rfl rfl rfl rfl rfl rfl rfl
theorem ly_cod {p : Nat} (hp : lyP p) (z : st_T) : ri_at (st_h z) (17 + p) = some (.inl (0, 400, .inl (z.2.1 (p + 1)))) := lyP_cases (P := fun p => ri_at (st_h z) (17 + p) = some (.inl (0, 400, .inl (z.2.1 (p + 1))))) hp rfl rfl rfl rfl rfl rfl rfl rfl rfl rfl rfl rfl rfl rfl rfl rfl rfl
theorem ly_mrk {p : Nat} (hp : lyP p) (z : st_T) : ri_at (st_h z) (18 + p) = some (.inl (0, 400, .inl (z.2.1 (p + 2)))) := lyP_cases (P := fun p => ri_at (st_h z) (18 + p) = some (.inl (0, 400, .inl (z.2.1 (p + 2))))) hp rfl rfl rfl rfl rfl rfl rfl rfl rfl rfl rfl rfl rfl rfl rfl rfl rfl
theorem ly_mset {p : Nat} (hp : lyP p) (z : st_T) (g : Nat → Int32) : (st_h z).set (p + 2) (.inl (0, 400, .inl g)) = st_h (fa z (p + 2) g) := lyP_cases (P := fun p => (st_h z).set (p + 2) (.inl (0, 400, .inl g)) = st_h (fa z (p + 2) g)) hp rfl rfl rfl rfl rfl rfl rfl rfl rfl rfl rfl rfl rfl rfl rfl rfl rfl
theorem b16 (a p : Nat) (h : 16 ≤ a) : Nat.ble 16 (a + p) = true := Nat.ble_eq_true_of_le (by omega)
section JR
variable {tab : List ri_S} {J : ri_K} {U V : Nat} {L : ri_L} {r : List Value} {z : st_T} {k n : Nat}
theorem J_layer (hJ : ri_clo J tab) (hf : tab[k]? = some (i_aald n 2)) {i : Nat} (hi : i < 16) (hn : J n U V L (.ref (16 + (23 + 3 * i)) :: r) (st_h z)) : J k U V L (.int (nI i) :: .ref 38 :: r) (st_h z) := by
  refine ri_go hJ [] 0 k hf ?_
  have e : va_rf (bif Nat.blt (nI i).toNatClampNeg 16 then some (39 + 3 * (nI i).toNatClampNeg) else none) = .ref (16 + (23 + 3 * i)) := by
    rw [cl31 (by omega), show Nat.blt i 16 = true from Nat.ble_eq_true_of_le hi]
    show Value.ref (39 + 3 * i) = _
    rw [show 39 + 3 * i = 16 + (23 + 3 * i) by omega]
  rw [← e] at hn
  exact ⟨vp_in_nI hi (by decide), hn⟩
theorem J_link (hJ : ri_clo J tab) (hf : tab[k]? = some (i_aald n 3)) {i : Nat} (hi : i < 16) (hn : J n U V L (.ref (16 + (78 + i)) :: r) (st_h z)) : J k U V L (.int (nI i) :: .ref 93 :: r) (st_h z) := by
  refine ri_go hJ [] 0 k hf ?_
  have e : va_rf (bif Nat.blt (nI i).toNatClampNeg 16 then some (94 + 1 * (nI i).toNatClampNeg) else none) = .ref (16 + (78 + i)) := by
    rw [cl31 (by omega), show Nat.blt i 16 = true from Nat.ble_eq_true_of_le hi]
    show Value.ref (94 + 1 * i) = _
    rw [show 94 + 1 * i = 16 + (78 + i) by omega]
  rw [← e] at hn
  exact ⟨vp_in_nI hi (by decide), hn⟩
theorem J_size (hJ : ri_clo J tab) (hf : tab[k]? = some (i_get n 5 0)) {p : Nat} (hp : lyP p) (hn : J n U V L (.int (z.1 p 0) :: r) (st_h z)) : J k U V L (.ref (16 + p) :: r) (st_h z) := by
  refine ri_go hJ [] 0 k hf ?_
  unfold i_get
  simp only [ly_obj hp z, b16 16 p (by decide)]
  exact hn
theorem J_codes (hJ : ri_clo J tab) (hf : tab[k]? = some (i_get n 5 1)) {p : Nat} (hp : lyP p) (hn : J n U V L (.ref (17 + p) :: r) (st_h z)) : J k U V L (.ref (16 + p) :: r) (st_h z) := by
  refine ri_go hJ [] 0 k hf ?_
  unfold i_get
  simp only [ly_obj hp z, b16 16 p (by decide)]
  exact hn
theorem J_marks (hJ : ri_clo J tab) (hf : tab[k]? = some (i_get n 5 2)) {p : Nat} (hp : lyP p) (hn : J n U V L (.ref (18 + p) :: r) (st_h z)) : J k U V L (.ref (16 + p) :: r) (st_h z) := by
  refine ri_go hJ [] 0 k hf ?_
  unfold i_get
  simp only [ly_obj hp z, b16 16 p (by decide)]
  exact hn
theorem J_code (hJ : ri_clo J tab) (hf : tab[k]? = some (i_ald n 0)) {p j : Nat} (hp : lyP p) (hj : j < 400) (hn : J n U V L (.int (z.2.1 (p + 1) j) :: r) (st_h z)) : J k U V L (.int (nI j) :: .ref (17 + p) :: r) (st_h z) := by
  refine ri_go hJ [] 0 k hf ?_
  unfold i_ald
  simp only [ly_cod hp z, cl31 (show j < 2 ^ 31 by omega)]
  exact ⟨vp_in_nI hj (by decide), hn⟩
theorem J_mark (hJ : ri_clo J tab) (hf : tab[k]? = some (i_ald n 0)) {p j : Nat} (hp : lyP p) (hj : j < 400) (hn : J n U V L (.int (z.2.1 (p + 2) j) :: r) (st_h z)) : J k U V L (.int (nI j) :: .ref (18 + p) :: r) (st_h z) := by
  refine ri_go hJ [] 0 k hf ?_
  unfold i_ald
  simp only [ly_mrk hp z, cl31 (show j < 2 ^ 31 by omega)]
  exact ⟨vp_in_nI hj (by decide), hn⟩
theorem J_setm (hJ : ri_clo J tab) (hf : tab[k]? = some (i_ast n 0 (fun x => x))) {p j : Nat} {x : Int32} (hp : lyP p) (hj : j < 400) (hn : J n U V L r (st_h (fa z (p + 2) (upd (z.2.1 (p + 2)) j x)))) : J k U V L (.int x :: .int (nI j) :: .ref (18 + p) :: r) (st_h z) := by
  refine ri_go hJ [] 0 k hf ?_
  unfold i_ast
  simp only [ly_mrk hp z, cl31 (show j < 2 ^ 31 by omega), b16 18 p (by decide), show 18 + p - 16 = p + 2 by omega, ly_mset hp]
  exact ⟨vp_in_nI hj (by decide), hn⟩
/-- a call at a layer -/
theorem J_lcall (hJ : ri_clo J tab) {na : Nat} {E : List Value → List ri_C → ri_O → Prop} {RC RS : Nat} {as rest : List Value} {h : List ri_C} (hf : tab[k]? = some (i_callV n (na + 1) 5 E 0 0 RC RS)) {p : Nat} {fs : List Value} (hat : ri_at h (16 + p) = some (.inr (5, fs))) {Po : ri_O} (hE : E (.ref (16 + p) :: as) h Po) (hlen : as.length = na) (hc : Nat.ble (rest.map Value.category).sum 8 = true) (hU : Nat.ble U RC = true) (hV : Nat.ble V RS = true) (hn : ∀ r h', Po r h' → J n U V L (r.toList ++ rest) h') : J k U V L (as.reverse ++ .ref (16 + p) :: rest) h := by
  refine ri_go hJ [] 0 k hf ?_
  have e0 : as.reverse ++ Value.ref (16 + p) :: rest = (as.reverse ++ [Value.ref (16 + p)]) ++ rest := by simp
  have hl : (as.reverse ++ [Value.ref (16 + p)]).length = na + 1 := by simp [hlen]
  have e1 : ((as.reverse ++ Value.ref (16 + p) :: rest).take (na + 1)).reverse = .ref (16 + p) :: as := by
    rw [e0, ← hl, List.take_left]; simp
  have e2 : (as.reverse ++ Value.ref (16 + p) :: rest).drop (na + 1) = rest := by
    rw [e0, ← hl, List.drop_left]
  have e3 : Nat.ble (na + 1) (as.reverse ++ Value.ref (16 + p) :: rest).length = true := Nat.ble_eq_true_of_le (by simp; omega)
  unfold i_callV
  rw [e1]
  simp only [hat, b16 16 p (by decide), e2, e3, hc, hU, hV, Nat.add_zero, Nat.beq_refl, Bool.and_true, cond_true, Nat.beq]
  exact ⟨Po, hE, hn⟩
end JR
theorem lk_arr {i : Nat} (hi : i < 16) (z : st_T) : ri_at (st_h z) (16 + (78 + i)) = some (.inl (0, 1600, .inl (z.2.1 (78 + i)))) ∧ ∀ g, (st_h z).set (78 + i) (.inl (0, 1600, .inl g)) = st_h (fa z (78 + i) g) := by
  match i, hi with
  | 0, _ => exact ⟨rfl, fun _ => rfl⟩
  | 1, _ => exact ⟨rfl, fun _ => rfl⟩
  | 2, _ => exact ⟨rfl, fun _ => rfl⟩
  | 3, _ => exact ⟨rfl, fun _ => rfl⟩
  | 4, _ => exact ⟨rfl, fun _ => rfl⟩
  | 5, _ => exact ⟨rfl, fun _ => rfl⟩
  | 6, _ => exact ⟨rfl, fun _ => rfl⟩
  | 7, _ => exact ⟨rfl, fun _ => rfl⟩
  | 8, _ => exact ⟨rfl, fun _ => rfl⟩
  | 9, _ => exact ⟨rfl, fun _ => rfl⟩
  | 10, _ => exact ⟨rfl, fun _ => rfl⟩
  | 11, _ => exact ⟨rfl, fun _ => rfl⟩
  | 12, _ => exact ⟨rfl, fun _ => rfl⟩
  | 13, _ => exact ⟨rfl, fun _ => rfl⟩
  | 14, _ => exact ⟨rfl, fun _ => rfl⟩
  | 15, _ => exact ⟨rfl, fun _ => rfl⟩
  | n + 16, h => exact absurd h (by omega)
