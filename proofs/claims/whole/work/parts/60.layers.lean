/-! Layers: sixteen of the table, and the trial one -/
def lyP (p : Nat) : Prop := p = 72 ∨ ∃ i, i < 16 ∧ p = 23 + 3 * i
theorem lyP_cases {P : Nat → Prop} {p : Nat} (hp : lyP p) (h23 : P 23) (h26 : P 26) (h29 : P 29) (h32 : P 32) (h35 : P 35) (h38 : P 38) (h41 : P 41) (h44 : P 44) (h47 : P 47) (h50 : P 50) (h53 : P 53) (h56 : P 56) (h59 : P 59) (h62 : P 62) (h65 : P 65) (h68 : P 68) (h72 : P 72) : P p := by
  rcases hp with rfl | ⟨i, hi, rfl⟩
  · exact h72
  · match i, hi with
    | 0, _ => exact h23
    | 1, _ => exact h26
    | 2, _ => exact h29
    | 3, _ => exact h32
    | 4, _ => exact h35
    | 5, _ => exact h38
    | 6, _ => exact h41
    | 7, _ => exact h44
    | 8, _ => exact h47
    | 9, _ => exact h50
    | 10, _ => exact h53
    | 11, _ => exact h56
    | 12, _ => exact h59
    | 13, _ => exact h62
    | 14, _ => exact h65
    | 15, _ => exact h68
    | n + 16, h => exact absurd h (by omega)
/-- the layer at p holds the list: its length, and the first 400 of it -/
def LY (z : st_T) (p : Nat) (L : List Nat) : Prop := z.1 p 0 = nI L.length ∧ ∀ j x, L[j]? = some x → j < 400 → z.2.1 (p + 1) j = nI x
def ri_zx (P : st_T → Prop) : ri_O := fun r h' => r = none ∧ ∃ z', h' = st_h z' ∧ P z'
def ri_zi (v : Int32) (P : st_T → Prop) : ri_O := fun r h' => r = some (.int v) ∧ ∃ z', h' = st_h z' ∧ P z'
theorem LY_md {ps : List Nat} {z z' : st_T} {p : Nat} {L : List Nat} (h : LY z p L) (hm : md ps z z') (h1 : p ∉ ps) (h2 : p + 1 ∉ ps) : LY z' p L := by
  unfold LY
  rw [(hm.1 p h1).1, (hm.1 _ h2).2]
  exact h
theorem LY_big {z : st_T} {p : Nat} {L : List Nat} {x : Nat} (h : LY z p L) (hl : 400 ≤ L.length) : LY (fs z p 0 (z.1 p 0 + 1)) p (L ++ [x]) := by
  refine ⟨?_, fun j y hj h4 => ?_⟩
  · show va_up z.1 p (va_up (z.1 p) 0 (z.1 p 0 + 1)) p 0 = _
    rw [va_up_self, va_up_self, h.1, nI_1, List.length_append]; rfl
  · rw [List.getElem?_append_left (by omega)] at hj
    exact h.2 j y hj h4
theorem LY_put {z : st_T} {p : Nat} {L : List Nat} {x : Nat} (h : LY z p L) (hl : L.length < 400) : LY (fs (fa z (p + 1) (upd (z.2.1 (p + 1)) L.length (nI x))) p 0 (z.1 p 0 + 1)) p (L ++ [x]) := by
  refine ⟨?_, fun j y hj h4 => ?_⟩
  · show va_up z.1 p (va_up (z.1 p) 0 (z.1 p 0 + 1)) p 0 = _
    rw [va_up_self, va_up_self, h.1, nI_1, List.length_append]; rfl
  · show va_up z.2.1 (p + 1) (upd (z.2.1 (p + 1)) L.length (nI x)) (p + 1) j = nI y
    rw [va_up_self]
    by_cases hjl : j < L.length
    · rw [List.getElem?_append_left hjl] at hj
      rw [pk_un (by omega)]
      exact h.2 j y hj h4
    · have hlt := (List.getElem?_eq_some_iff.mp hj).1
      rw [List.length_append] at hlt
      have hlt : j < L.length + 1 := hlt
      have e : j = L.length := by omega
      subst e
      rw [List.getElem?_append_right (Nat.le_refl _), Nat.sub_self] at hj
      cases hj
      exact pk_us
theorem e5_add_open (l : Launch) {p : Nat} (hgo : ∀ (z : st_T) (n x : Nat), z.1 p 0 = nI n → n < 2 ^ 30 → ∀ J : ri_K, (∀ Po, ri_clo J (t5_add l Po) → ((400 ≤ n → Po none (st_h (fs z p 0 (z.1 p 0 + 1)))) ∧ (n < 400 → Po none (st_h (fs (fa z (p + 1) (upd (z.2.1 (p + 1)) n (nI x))) p 0 (z.1 p 0 + 1))))) → J 0 0 0 [some (.ref (16 + p)), some (.int (nI x))] [] (st_h z))) {z : st_T} {L : List Nat} {x : Nat} (h : LY z p L) (hl : L.length < 2 ^ 30) : ri_Ev l y5_add w5_add r5_add 0 0 [.ref (16 + p), .int (nI x)] (st_h z) (ri_zx fun z' => LY z' p (L ++ [x]) ∧ md [p, p + 1] z z') := by
  refine ri_ev (t5_add l _) rfl rfl rfl (Nat.le_of_ble_eq_true rfl) rfl (z5_add l _) (fun J hJ => ?_)
  refine hgo z L.length x h.1 hl J _ hJ ⟨fun h4 => ⟨rfl, _, rfl, LY_big h h4, md_fs (by simp)⟩, fun h4 => ⟨rfl, _, rfl, LY_put h h4, md_tr (md_fa (by simp)) (md_fs (by simp))⟩⟩
set_option maxRecDepth 4000 in
theorem e5_add_23 (l : Launch) : ∀ (z : st_T) (n x : Nat), z.1 23 0 = nI n → n < 2 ^ 30 → ∀ J : ri_K, (∀ Po, ri_clo J (t5_add l Po) → ((400 ≤ n → Po none (st_h (fs z 23 0 (z.1 23 0 + 1)))) ∧ (n < 400 → Po none (st_h (fs (fa z (23 + 1) (upd (z.2.1 (23 + 1)) n (nI x))) 23 0 (z.1 23 0 + 1))))) → J 0 0 0 [some (.ref (16 + 23)), some (.int (nI x))] [] (st_h z)) := by
  intro z n x hn hl J Po hJ hPo
  refine ri_run_ok hJ [] 40 0 0 0 _ _ _ ?_
  refine ⟨fun c => hPo.1 ?_, fun c => ⟨?_, ?_⟩⟩
  · have c : (400 : Int32) ≤ z.1 23 0 := c
    rw [hn, show (400 : Int32) = nI 400 from rfl, nn_le (by decide) (by omega)] at c
    exact c
  · have c : ¬ (400 : Int32) ≤ z.1 23 0 := c
    rw [hn, show (400 : Int32) = nI 400 from rfl, nn_le (by decide) (by omega)] at c
    show vp_in (z.1 23 0) 400
    rw [hn]
    exact vp_in_nI (by omega) (by decide)
  · have c : ¬ (400 : Int32) ≤ z.1 23 0 := c
    rw [hn, show (400 : Int32) = nI 400 from rfl, nn_le (by decide) (by omega)] at c
    have := hPo.2 (by omega)
    rw [show n = (z.1 23 0).toNatClampNeg by rw [hn, cl31 (by omega)]] at this
    exact this
set_option maxRecDepth 4000 in
theorem e5_add_26 (l : Launch) : ∀ (z : st_T) (n x : Nat), z.1 26 0 = nI n → n < 2 ^ 30 → ∀ J : ri_K, (∀ Po, ri_clo J (t5_add l Po) → ((400 ≤ n → Po none (st_h (fs z 26 0 (z.1 26 0 + 1)))) ∧ (n < 400 → Po none (st_h (fs (fa z (26 + 1) (upd (z.2.1 (26 + 1)) n (nI x))) 26 0 (z.1 26 0 + 1))))) → J 0 0 0 [some (.ref (16 + 26)), some (.int (nI x))] [] (st_h z)) := by
  intro z n x hn hl J Po hJ hPo
  refine ri_run_ok hJ [] 40 0 0 0 _ _ _ ?_
  refine ⟨fun c => hPo.1 ?_, fun c => ⟨?_, ?_⟩⟩
  · have c : (400 : Int32) ≤ z.1 26 0 := c
    rw [hn, show (400 : Int32) = nI 400 from rfl, nn_le (by decide) (by omega)] at c
    exact c
  · have c : ¬ (400 : Int32) ≤ z.1 26 0 := c
    rw [hn, show (400 : Int32) = nI 400 from rfl, nn_le (by decide) (by omega)] at c
    show vp_in (z.1 26 0) 400
    rw [hn]
    exact vp_in_nI (by omega) (by decide)
  · have c : ¬ (400 : Int32) ≤ z.1 26 0 := c
    rw [hn, show (400 : Int32) = nI 400 from rfl, nn_le (by decide) (by omega)] at c
    have := hPo.2 (by omega)
    rw [show n = (z.1 26 0).toNatClampNeg by rw [hn, cl31 (by omega)]] at this
    exact this
set_option maxRecDepth 4000 in
theorem e5_add_29 (l : Launch) : ∀ (z : st_T) (n x : Nat), z.1 29 0 = nI n → n < 2 ^ 30 → ∀ J : ri_K, (∀ Po, ri_clo J (t5_add l Po) → ((400 ≤ n → Po none (st_h (fs z 29 0 (z.1 29 0 + 1)))) ∧ (n < 400 → Po none (st_h (fs (fa z (29 + 1) (upd (z.2.1 (29 + 1)) n (nI x))) 29 0 (z.1 29 0 + 1))))) → J 0 0 0 [some (.ref (16 + 29)), some (.int (nI x))] [] (st_h z)) := by
  intro z n x hn hl J Po hJ hPo
  refine ri_run_ok hJ [] 40 0 0 0 _ _ _ ?_
  refine ⟨fun c => hPo.1 ?_, fun c => ⟨?_, ?_⟩⟩
  · have c : (400 : Int32) ≤ z.1 29 0 := c
    rw [hn, show (400 : Int32) = nI 400 from rfl, nn_le (by decide) (by omega)] at c
    exact c
  · have c : ¬ (400 : Int32) ≤ z.1 29 0 := c
    rw [hn, show (400 : Int32) = nI 400 from rfl, nn_le (by decide) (by omega)] at c
    show vp_in (z.1 29 0) 400
    rw [hn]
    exact vp_in_nI (by omega) (by decide)
  · have c : ¬ (400 : Int32) ≤ z.1 29 0 := c
    rw [hn, show (400 : Int32) = nI 400 from rfl, nn_le (by decide) (by omega)] at c
    have := hPo.2 (by omega)
    rw [show n = (z.1 29 0).toNatClampNeg by rw [hn, cl31 (by omega)]] at this
    exact this
set_option maxRecDepth 4000 in
theorem e5_add_32 (l : Launch) : ∀ (z : st_T) (n x : Nat), z.1 32 0 = nI n → n < 2 ^ 30 → ∀ J : ri_K, (∀ Po, ri_clo J (t5_add l Po) → ((400 ≤ n → Po none (st_h (fs z 32 0 (z.1 32 0 + 1)))) ∧ (n < 400 → Po none (st_h (fs (fa z (32 + 1) (upd (z.2.1 (32 + 1)) n (nI x))) 32 0 (z.1 32 0 + 1))))) → J 0 0 0 [some (.ref (16 + 32)), some (.int (nI x))] [] (st_h z)) := by
  intro z n x hn hl J Po hJ hPo
  refine ri_run_ok hJ [] 40 0 0 0 _ _ _ ?_
  refine ⟨fun c => hPo.1 ?_, fun c => ⟨?_, ?_⟩⟩
  · have c : (400 : Int32) ≤ z.1 32 0 := c
    rw [hn, show (400 : Int32) = nI 400 from rfl, nn_le (by decide) (by omega)] at c
    exact c
  · have c : ¬ (400 : Int32) ≤ z.1 32 0 := c
    rw [hn, show (400 : Int32) = nI 400 from rfl, nn_le (by decide) (by omega)] at c
    show vp_in (z.1 32 0) 400
    rw [hn]
    exact vp_in_nI (by omega) (by decide)
  · have c : ¬ (400 : Int32) ≤ z.1 32 0 := c
    rw [hn, show (400 : Int32) = nI 400 from rfl, nn_le (by decide) (by omega)] at c
    have := hPo.2 (by omega)
    rw [show n = (z.1 32 0).toNatClampNeg by rw [hn, cl31 (by omega)]] at this
    exact this
set_option maxRecDepth 4000 in
theorem e5_add_35 (l : Launch) : ∀ (z : st_T) (n x : Nat), z.1 35 0 = nI n → n < 2 ^ 30 → ∀ J : ri_K, (∀ Po, ri_clo J (t5_add l Po) → ((400 ≤ n → Po none (st_h (fs z 35 0 (z.1 35 0 + 1)))) ∧ (n < 400 → Po none (st_h (fs (fa z (35 + 1) (upd (z.2.1 (35 + 1)) n (nI x))) 35 0 (z.1 35 0 + 1))))) → J 0 0 0 [some (.ref (16 + 35)), some (.int (nI x))] [] (st_h z)) := by
  intro z n x hn hl J Po hJ hPo
  refine ri_run_ok hJ [] 40 0 0 0 _ _ _ ?_
  refine ⟨fun c => hPo.1 ?_, fun c => ⟨?_, ?_⟩⟩
  · have c : (400 : Int32) ≤ z.1 35 0 := c
    rw [hn, show (400 : Int32) = nI 400 from rfl, nn_le (by decide) (by omega)] at c
    exact c
  · have c : ¬ (400 : Int32) ≤ z.1 35 0 := c
    rw [hn, show (400 : Int32) = nI 400 from rfl, nn_le (by decide) (by omega)] at c
    show vp_in (z.1 35 0) 400
    rw [hn]
    exact vp_in_nI (by omega) (by decide)
  · have c : ¬ (400 : Int32) ≤ z.1 35 0 := c
    rw [hn, show (400 : Int32) = nI 400 from rfl, nn_le (by decide) (by omega)] at c
    have := hPo.2 (by omega)
    rw [show n = (z.1 35 0).toNatClampNeg by rw [hn, cl31 (by omega)]] at this
    exact this
set_option maxRecDepth 4000 in
theorem e5_add_38 (l : Launch) : ∀ (z : st_T) (n x : Nat), z.1 38 0 = nI n → n < 2 ^ 30 → ∀ J : ri_K, (∀ Po, ri_clo J (t5_add l Po) → ((400 ≤ n → Po none (st_h (fs z 38 0 (z.1 38 0 + 1)))) ∧ (n < 400 → Po none (st_h (fs (fa z (38 + 1) (upd (z.2.1 (38 + 1)) n (nI x))) 38 0 (z.1 38 0 + 1))))) → J 0 0 0 [some (.ref (16 + 38)), some (.int (nI x))] [] (st_h z)) := by
  intro z n x hn hl J Po hJ hPo
  refine ri_run_ok hJ [] 40 0 0 0 _ _ _ ?_
  refine ⟨fun c => hPo.1 ?_, fun c => ⟨?_, ?_⟩⟩
  · have c : (400 : Int32) ≤ z.1 38 0 := c
    rw [hn, show (400 : Int32) = nI 400 from rfl, nn_le (by decide) (by omega)] at c
    exact c
  · have c : ¬ (400 : Int32) ≤ z.1 38 0 := c
    rw [hn, show (400 : Int32) = nI 400 from rfl, nn_le (by decide) (by omega)] at c
    show vp_in (z.1 38 0) 400
    rw [hn]
    exact vp_in_nI (by omega) (by decide)
  · have c : ¬ (400 : Int32) ≤ z.1 38 0 := c
    rw [hn, show (400 : Int32) = nI 400 from rfl, nn_le (by decide) (by omega)] at c
    have := hPo.2 (by omega)
    rw [show n = (z.1 38 0).toNatClampNeg by rw [hn, cl31 (by omega)]] at this
    exact this
set_option maxRecDepth 4000 in
theorem e5_add_41 (l : Launch) : ∀ (z : st_T) (n x : Nat), z.1 41 0 = nI n → n < 2 ^ 30 → ∀ J : ri_K, (∀ Po, ri_clo J (t5_add l Po) → ((400 ≤ n → Po none (st_h (fs z 41 0 (z.1 41 0 + 1)))) ∧ (n < 400 → Po none (st_h (fs (fa z (41 + 1) (upd (z.2.1 (41 + 1)) n (nI x))) 41 0 (z.1 41 0 + 1))))) → J 0 0 0 [some (.ref (16 + 41)), some (.int (nI x))] [] (st_h z)) := by
  intro z n x hn hl J Po hJ hPo
  refine ri_run_ok hJ [] 40 0 0 0 _ _ _ ?_
  refine ⟨fun c => hPo.1 ?_, fun c => ⟨?_, ?_⟩⟩
  · have c : (400 : Int32) ≤ z.1 41 0 := c
    rw [hn, show (400 : Int32) = nI 400 from rfl, nn_le (by decide) (by omega)] at c
    exact c
  · have c : ¬ (400 : Int32) ≤ z.1 41 0 := c
    rw [hn, show (400 : Int32) = nI 400 from rfl, nn_le (by decide) (by omega)] at c
    show vp_in (z.1 41 0) 400
    rw [hn]
    exact vp_in_nI (by omega) (by decide)
  · have c : ¬ (400 : Int32) ≤ z.1 41 0 := c
    rw [hn, show (400 : Int32) = nI 400 from rfl, nn_le (by decide) (by omega)] at c
    have := hPo.2 (by omega)
    rw [show n = (z.1 41 0).toNatClampNeg by rw [hn, cl31 (by omega)]] at this
    exact this
set_option maxRecDepth 4000 in
theorem e5_add_44 (l : Launch) : ∀ (z : st_T) (n x : Nat), z.1 44 0 = nI n → n < 2 ^ 30 → ∀ J : ri_K, (∀ Po, ri_clo J (t5_add l Po) → ((400 ≤ n → Po none (st_h (fs z 44 0 (z.1 44 0 + 1)))) ∧ (n < 400 → Po none (st_h (fs (fa z (44 + 1) (upd (z.2.1 (44 + 1)) n (nI x))) 44 0 (z.1 44 0 + 1))))) → J 0 0 0 [some (.ref (16 + 44)), some (.int (nI x))] [] (st_h z)) := by
  intro z n x hn hl J Po hJ hPo
  refine ri_run_ok hJ [] 40 0 0 0 _ _ _ ?_
  refine ⟨fun c => hPo.1 ?_, fun c => ⟨?_, ?_⟩⟩
  · have c : (400 : Int32) ≤ z.1 44 0 := c
    rw [hn, show (400 : Int32) = nI 400 from rfl, nn_le (by decide) (by omega)] at c
    exact c
  · have c : ¬ (400 : Int32) ≤ z.1 44 0 := c
    rw [hn, show (400 : Int32) = nI 400 from rfl, nn_le (by decide) (by omega)] at c
    show vp_in (z.1 44 0) 400
    rw [hn]
    exact vp_in_nI (by omega) (by decide)
  · have c : ¬ (400 : Int32) ≤ z.1 44 0 := c
    rw [hn, show (400 : Int32) = nI 400 from rfl, nn_le (by decide) (by omega)] at c
    have := hPo.2 (by omega)
    rw [show n = (z.1 44 0).toNatClampNeg by rw [hn, cl31 (by omega)]] at this
    exact this
set_option maxRecDepth 4000 in
theorem e5_add_47 (l : Launch) : ∀ (z : st_T) (n x : Nat), z.1 47 0 = nI n → n < 2 ^ 30 → ∀ J : ri_K, (∀ Po, ri_clo J (t5_add l Po) → ((400 ≤ n → Po none (st_h (fs z 47 0 (z.1 47 0 + 1)))) ∧ (n < 400 → Po none (st_h (fs (fa z (47 + 1) (upd (z.2.1 (47 + 1)) n (nI x))) 47 0 (z.1 47 0 + 1))))) → J 0 0 0 [some (.ref (16 + 47)), some (.int (nI x))] [] (st_h z)) := by
  intro z n x hn hl J Po hJ hPo
  refine ri_run_ok hJ [] 40 0 0 0 _ _ _ ?_
  refine ⟨fun c => hPo.1 ?_, fun c => ⟨?_, ?_⟩⟩
  · have c : (400 : Int32) ≤ z.1 47 0 := c
    rw [hn, show (400 : Int32) = nI 400 from rfl, nn_le (by decide) (by omega)] at c
    exact c
  · have c : ¬ (400 : Int32) ≤ z.1 47 0 := c
    rw [hn, show (400 : Int32) = nI 400 from rfl, nn_le (by decide) (by omega)] at c
    show vp_in (z.1 47 0) 400
    rw [hn]
    exact vp_in_nI (by omega) (by decide)
  · have c : ¬ (400 : Int32) ≤ z.1 47 0 := c
    rw [hn, show (400 : Int32) = nI 400 from rfl, nn_le (by decide) (by omega)] at c
    have := hPo.2 (by omega)
    rw [show n = (z.1 47 0).toNatClampNeg by rw [hn, cl31 (by omega)]] at this
    exact this
set_option maxRecDepth 4000 in
theorem e5_add_50 (l : Launch) : ∀ (z : st_T) (n x : Nat), z.1 50 0 = nI n → n < 2 ^ 30 → ∀ J : ri_K, (∀ Po, ri_clo J (t5_add l Po) → ((400 ≤ n → Po none (st_h (fs z 50 0 (z.1 50 0 + 1)))) ∧ (n < 400 → Po none (st_h (fs (fa z (50 + 1) (upd (z.2.1 (50 + 1)) n (nI x))) 50 0 (z.1 50 0 + 1))))) → J 0 0 0 [some (.ref (16 + 50)), some (.int (nI x))] [] (st_h z)) := by
  intro z n x hn hl J Po hJ hPo
  refine ri_run_ok hJ [] 40 0 0 0 _ _ _ ?_
  refine ⟨fun c => hPo.1 ?_, fun c => ⟨?_, ?_⟩⟩
  · have c : (400 : Int32) ≤ z.1 50 0 := c
    rw [hn, show (400 : Int32) = nI 400 from rfl, nn_le (by decide) (by omega)] at c
    exact c
  · have c : ¬ (400 : Int32) ≤ z.1 50 0 := c
    rw [hn, show (400 : Int32) = nI 400 from rfl, nn_le (by decide) (by omega)] at c
    show vp_in (z.1 50 0) 400
    rw [hn]
    exact vp_in_nI (by omega) (by decide)
  · have c : ¬ (400 : Int32) ≤ z.1 50 0 := c
    rw [hn, show (400 : Int32) = nI 400 from rfl, nn_le (by decide) (by omega)] at c
    have := hPo.2 (by omega)
    rw [show n = (z.1 50 0).toNatClampNeg by rw [hn, cl31 (by omega)]] at this
    exact this
set_option maxRecDepth 4000 in
theorem e5_add_53 (l : Launch) : ∀ (z : st_T) (n x : Nat), z.1 53 0 = nI n → n < 2 ^ 30 → ∀ J : ri_K, (∀ Po, ri_clo J (t5_add l Po) → ((400 ≤ n → Po none (st_h (fs z 53 0 (z.1 53 0 + 1)))) ∧ (n < 400 → Po none (st_h (fs (fa z (53 + 1) (upd (z.2.1 (53 + 1)) n (nI x))) 53 0 (z.1 53 0 + 1))))) → J 0 0 0 [some (.ref (16 + 53)), some (.int (nI x))] [] (st_h z)) := by
  intro z n x hn hl J Po hJ hPo
  refine ri_run_ok hJ [] 40 0 0 0 _ _ _ ?_
  refine ⟨fun c => hPo.1 ?_, fun c => ⟨?_, ?_⟩⟩
  · have c : (400 : Int32) ≤ z.1 53 0 := c
    rw [hn, show (400 : Int32) = nI 400 from rfl, nn_le (by decide) (by omega)] at c
    exact c
  · have c : ¬ (400 : Int32) ≤ z.1 53 0 := c
    rw [hn, show (400 : Int32) = nI 400 from rfl, nn_le (by decide) (by omega)] at c
    show vp_in (z.1 53 0) 400
    rw [hn]
    exact vp_in_nI (by omega) (by decide)
  · have c : ¬ (400 : Int32) ≤ z.1 53 0 := c
    rw [hn, show (400 : Int32) = nI 400 from rfl, nn_le (by decide) (by omega)] at c
    have := hPo.2 (by omega)
    rw [show n = (z.1 53 0).toNatClampNeg by rw [hn, cl31 (by omega)]] at this
    exact this
set_option maxRecDepth 4000 in
theorem e5_add_56 (l : Launch) : ∀ (z : st_T) (n x : Nat), z.1 56 0 = nI n → n < 2 ^ 30 → ∀ J : ri_K, (∀ Po, ri_clo J (t5_add l Po) → ((400 ≤ n → Po none (st_h (fs z 56 0 (z.1 56 0 + 1)))) ∧ (n < 400 → Po none (st_h (fs (fa z (56 + 1) (upd (z.2.1 (56 + 1)) n (nI x))) 56 0 (z.1 56 0 + 1))))) → J 0 0 0 [some (.ref (16 + 56)), some (.int (nI x))] [] (st_h z)) := by
  intro z n x hn hl J Po hJ hPo
  refine ri_run_ok hJ [] 40 0 0 0 _ _ _ ?_
  refine ⟨fun c => hPo.1 ?_, fun c => ⟨?_, ?_⟩⟩
  · have c : (400 : Int32) ≤ z.1 56 0 := c
    rw [hn, show (400 : Int32) = nI 400 from rfl, nn_le (by decide) (by omega)] at c
    exact c
  · have c : ¬ (400 : Int32) ≤ z.1 56 0 := c
    rw [hn, show (400 : Int32) = nI 400 from rfl, nn_le (by decide) (by omega)] at c
    show vp_in (z.1 56 0) 400
    rw [hn]
    exact vp_in_nI (by omega) (by decide)
  · have c : ¬ (400 : Int32) ≤ z.1 56 0 := c
    rw [hn, show (400 : Int32) = nI 400 from rfl, nn_le (by decide) (by omega)] at c
    have := hPo.2 (by omega)
    rw [show n = (z.1 56 0).toNatClampNeg by rw [hn, cl31 (by omega)]] at this
    exact this
set_option maxRecDepth 4000 in
theorem e5_add_59 (l : Launch) : ∀ (z : st_T) (n x : Nat), z.1 59 0 = nI n → n < 2 ^ 30 → ∀ J : ri_K, (∀ Po, ri_clo J (t5_add l Po) → ((400 ≤ n → Po none (st_h (fs z 59 0 (z.1 59 0 + 1)))) ∧ (n < 400 → Po none (st_h (fs (fa z (59 + 1) (upd (z.2.1 (59 + 1)) n (nI x))) 59 0 (z.1 59 0 + 1))))) → J 0 0 0 [some (.ref (16 + 59)), some (.int (nI x))] [] (st_h z)) := by
  intro z n x hn hl J Po hJ hPo
  refine ri_run_ok hJ [] 40 0 0 0 _ _ _ ?_
  refine ⟨fun c => hPo.1 ?_, fun c => ⟨?_, ?_⟩⟩
  · have c : (400 : Int32) ≤ z.1 59 0 := c
    rw [hn, show (400 : Int32) = nI 400 from rfl, nn_le (by decide) (by omega)] at c
    exact c
  · have c : ¬ (400 : Int32) ≤ z.1 59 0 := c
    rw [hn, show (400 : Int32) = nI 400 from rfl, nn_le (by decide) (by omega)] at c
    show vp_in (z.1 59 0) 400
    rw [hn]
    exact vp_in_nI (by omega) (by decide)
  · have c : ¬ (400 : Int32) ≤ z.1 59 0 := c
    rw [hn, show (400 : Int32) = nI 400 from rfl, nn_le (by decide) (by omega)] at c
    have := hPo.2 (by omega)
    rw [show n = (z.1 59 0).toNatClampNeg by rw [hn, cl31 (by omega)]] at this
    exact this
set_option maxRecDepth 4000 in
theorem e5_add_62 (l : Launch) : ∀ (z : st_T) (n x : Nat), z.1 62 0 = nI n → n < 2 ^ 30 → ∀ J : ri_K, (∀ Po, ri_clo J (t5_add l Po) → ((400 ≤ n → Po none (st_h (fs z 62 0 (z.1 62 0 + 1)))) ∧ (n < 400 → Po none (st_h (fs (fa z (62 + 1) (upd (z.2.1 (62 + 1)) n (nI x))) 62 0 (z.1 62 0 + 1))))) → J 0 0 0 [some (.ref (16 + 62)), some (.int (nI x))] [] (st_h z)) := by
  intro z n x hn hl J Po hJ hPo
  refine ri_run_ok hJ [] 40 0 0 0 _ _ _ ?_
  refine ⟨fun c => hPo.1 ?_, fun c => ⟨?_, ?_⟩⟩
  · have c : (400 : Int32) ≤ z.1 62 0 := c
    rw [hn, show (400 : Int32) = nI 400 from rfl, nn_le (by decide) (by omega)] at c
    exact c
  · have c : ¬ (400 : Int32) ≤ z.1 62 0 := c
    rw [hn, show (400 : Int32) = nI 400 from rfl, nn_le (by decide) (by omega)] at c
    show vp_in (z.1 62 0) 400
    rw [hn]
    exact vp_in_nI (by omega) (by decide)
  · have c : ¬ (400 : Int32) ≤ z.1 62 0 := c
    rw [hn, show (400 : Int32) = nI 400 from rfl, nn_le (by decide) (by omega)] at c
    have := hPo.2 (by omega)
    rw [show n = (z.1 62 0).toNatClampNeg by rw [hn, cl31 (by omega)]] at this
    exact this
set_option maxRecDepth 4000 in
theorem e5_add_65 (l : Launch) : ∀ (z : st_T) (n x : Nat), z.1 65 0 = nI n → n < 2 ^ 30 → ∀ J : ri_K, (∀ Po, ri_clo J (t5_add l Po) → ((400 ≤ n → Po none (st_h (fs z 65 0 (z.1 65 0 + 1)))) ∧ (n < 400 → Po none (st_h (fs (fa z (65 + 1) (upd (z.2.1 (65 + 1)) n (nI x))) 65 0 (z.1 65 0 + 1))))) → J 0 0 0 [some (.ref (16 + 65)), some (.int (nI x))] [] (st_h z)) := by
  intro z n x hn hl J Po hJ hPo
  refine ri_run_ok hJ [] 40 0 0 0 _ _ _ ?_
  refine ⟨fun c => hPo.1 ?_, fun c => ⟨?_, ?_⟩⟩
  · have c : (400 : Int32) ≤ z.1 65 0 := c
    rw [hn, show (400 : Int32) = nI 400 from rfl, nn_le (by decide) (by omega)] at c
    exact c
  · have c : ¬ (400 : Int32) ≤ z.1 65 0 := c
    rw [hn, show (400 : Int32) = nI 400 from rfl, nn_le (by decide) (by omega)] at c
    show vp_in (z.1 65 0) 400
    rw [hn]
    exact vp_in_nI (by omega) (by decide)
  · have c : ¬ (400 : Int32) ≤ z.1 65 0 := c
    rw [hn, show (400 : Int32) = nI 400 from rfl, nn_le (by decide) (by omega)] at c
    have := hPo.2 (by omega)
    rw [show n = (z.1 65 0).toNatClampNeg by rw [hn, cl31 (by omega)]] at this
    exact this
set_option maxRecDepth 4000 in
theorem e5_add_68 (l : Launch) : ∀ (z : st_T) (n x : Nat), z.1 68 0 = nI n → n < 2 ^ 30 → ∀ J : ri_K, (∀ Po, ri_clo J (t5_add l Po) → ((400 ≤ n → Po none (st_h (fs z 68 0 (z.1 68 0 + 1)))) ∧ (n < 400 → Po none (st_h (fs (fa z (68 + 1) (upd (z.2.1 (68 + 1)) n (nI x))) 68 0 (z.1 68 0 + 1))))) → J 0 0 0 [some (.ref (16 + 68)), some (.int (nI x))] [] (st_h z)) := by
  intro z n x hn hl J Po hJ hPo
  refine ri_run_ok hJ [] 40 0 0 0 _ _ _ ?_
  refine ⟨fun c => hPo.1 ?_, fun c => ⟨?_, ?_⟩⟩
  · have c : (400 : Int32) ≤ z.1 68 0 := c
    rw [hn, show (400 : Int32) = nI 400 from rfl, nn_le (by decide) (by omega)] at c
    exact c
  · have c : ¬ (400 : Int32) ≤ z.1 68 0 := c
    rw [hn, show (400 : Int32) = nI 400 from rfl, nn_le (by decide) (by omega)] at c
    show vp_in (z.1 68 0) 400
    rw [hn]
    exact vp_in_nI (by omega) (by decide)
  · have c : ¬ (400 : Int32) ≤ z.1 68 0 := c
    rw [hn, show (400 : Int32) = nI 400 from rfl, nn_le (by decide) (by omega)] at c
    have := hPo.2 (by omega)
    rw [show n = (z.1 68 0).toNatClampNeg by rw [hn, cl31 (by omega)]] at this
    exact this
set_option maxRecDepth 4000 in
theorem e5_add_72 (l : Launch) : ∀ (z : st_T) (n x : Nat), z.1 72 0 = nI n → n < 2 ^ 30 → ∀ J : ri_K, (∀ Po, ri_clo J (t5_add l Po) → ((400 ≤ n → Po none (st_h (fs z 72 0 (z.1 72 0 + 1)))) ∧ (n < 400 → Po none (st_h (fs (fa z (72 + 1) (upd (z.2.1 (72 + 1)) n (nI x))) 72 0 (z.1 72 0 + 1))))) → J 0 0 0 [some (.ref (16 + 72)), some (.int (nI x))] [] (st_h z)) := by
  intro z n x hn hl J Po hJ hPo
  refine ri_run_ok hJ [] 40 0 0 0 _ _ _ ?_
  refine ⟨fun c => hPo.1 ?_, fun c => ⟨?_, ?_⟩⟩
  · have c : (400 : Int32) ≤ z.1 72 0 := c
    rw [hn, show (400 : Int32) = nI 400 from rfl, nn_le (by decide) (by omega)] at c
    exact c
  · have c : ¬ (400 : Int32) ≤ z.1 72 0 := c
    rw [hn, show (400 : Int32) = nI 400 from rfl, nn_le (by decide) (by omega)] at c
    show vp_in (z.1 72 0) 400
    rw [hn]
    exact vp_in_nI (by omega) (by decide)
  · have c : ¬ (400 : Int32) ≤ z.1 72 0 := c
    rw [hn, show (400 : Int32) = nI 400 from rfl, nn_le (by decide) (by omega)] at c
    have := hPo.2 (by omega)
    rw [show n = (z.1 72 0).toNatClampNeg by rw [hn, cl31 (by omega)]] at this
    exact this
theorem e5_add (l : Launch) {p : Nat} (hp : lyP p) {z : st_T} {L : List Nat} {x : Nat} (h : LY z p L) (hl : L.length < 2 ^ 30) : ri_Ev l y5_add w5_add r5_add 0 0 [.ref (16 + p), .int (nI x)] (st_h z) (ri_zx fun z' => LY z' p (L ++ [x]) ∧ md [p, p + 1] z z') := by
  refine e5_add_open l ?_ h hl
  exact lyP_cases (P := fun p => ∀ (z : st_T) (n x : Nat), z.1 p 0 = nI n → n < 2 ^ 30 → ∀ J : ri_K, (∀ Po, ri_clo J (t5_add l Po) → ((400 ≤ n → Po none (st_h (fs z p 0 (z.1 p 0 + 1)))) ∧ (n < 400 → Po none (st_h (fs (fa z (p + 1) (upd (z.2.1 (p + 1)) n (nI x))) p 0 (z.1 p 0 + 1))))) → J 0 0 0 [some (.ref (16 + p)), some (.int (nI x))] [] (st_h z))) hp (e5_add_23 l) (e5_add_26 l) (e5_add_29 l) (e5_add_32 l) (e5_add_35 l) (e5_add_38 l) (e5_add_41 l) (e5_add_44 l) (e5_add_47 l) (e5_add_50 l) (e5_add_53 l) (e5_add_56 l) (e5_add_59 l) (e5_add_62 l) (e5_add_65 l) (e5_add_68 l) (e5_add_72 l)
