/-! RowSearch: all rests of all places; traceRows -/
def mkW (X : List Nat) (f : Nat → wy) : Nat → wy := fun s => match X[s]? with
  | some x => f x
  | none => []
def alv (beam : Nat) (W : Nat → wy) (n s : Nat) : Bool := if beam = 0 then goW W s else (nrw beam W n).any (fun a => a.2 == s)
def mkA (beam : Nat) (X : List Nat) (W : Nat → wy) : List Nat := (List.range X.length).filter (alv beam W X.length)
def lvW (T : tT) (St : Nat → List Nat) (beam : Nat) : Nat → Nat → wy
  | 0 => mkW (St (T 8 2 - 1)) (fun x => [(cst T x, 0)])
  | k + 1 => mkW (St (T 8 2 - 2 - k)) (fun x => lnkF T x (cst T x) (St (T 8 2 - 1 - k)) (lvW T St beam k) (mkA beam (St (T 8 2 - 1 - k)) (lvW T St beam k)) [])
def plW (T : tT) (St : Nat → List Nat) (beam i : Nat) : Nat → wy := lvW T St beam (T 8 2 - 1 - i)
def plA (T : tT) (St : Nat → List Nat) (beam i : Nat) : List Nat := mkA beam (St i) (plW T St beam i)
theorem mkW_at {X : List Nat} {f : Nat → wy} {s x : Nat} (h : X[s]? = some x) : mkW X f s = f x := by unfold mkW; rw [h]
theorem mkW_no {X : List Nat} {f : Nat → wy} {s : Nat} (h : X[s]? = none) : mkW X f s = [] := by unfold mkW; rw [h]
theorem plW_at {T : tT} {St : Nat → List Nat} {beam i s x : Nat} (hi : i < T 8 2) (h : (St i)[s]? = some x) : plW T St beam i s = wv T i (St (i + 1)) (plW T St beam (i + 1)) (plA T St beam (i + 1)) x := by
  unfold plW wv
  by_cases q : i + 1 = T 8 2
  · rw [if_pos q, show T 8 2 - 1 - i = 0 by omega]
    unfold lvW
    rw [show T 8 2 - 1 = i by omega, mkW_at h]
  · rw [if_neg q, show T 8 2 - 1 - i = (T 8 2 - 1 - (i + 1)) + 1 by omega]
    show mkW (St (T 8 2 - 2 - (T 8 2 - 1 - (i + 1)))) _ s = _
    rw [show T 8 2 - 2 - (T 8 2 - 1 - (i + 1)) = i by omega, mkW_at h, show T 8 2 - 1 - (T 8 2 - 1 - (i + 1)) = i + 1 by omega]
    rfl
theorem plA_mem {T : tT} {St : Nat → List Nat} {beam i t : Nat} (h : t ∈ plA T St beam i) : t < (St i).length ∧ alv beam (plW T St beam i) (St i).length t = true := by
  have := List.mem_filter.mp h
  exact ⟨List.mem_range.mp this.1, this.2⟩
theorem rstF_mem {c t : Nat} : ∀ (W : wy) (r : Nat) (L : wy) (a : Nat × Nat), a ∈ rstF c t r W L → a ∈ L ∨ ∃ j, j < W.length ∧ a.2 = 4 * t + r + j
  | [], _, _, _, h => Or.inl h
  | b :: W, r, L, a, h => by
    rcases rstF_mem W (r + 1) _ a h with h | ⟨j, hj, e⟩
    · rcases insk_mem h with rfl | h
      · exact Or.inr ⟨0, by simp, rfl⟩
      · exact Or.inl h
    · exact Or.inr ⟨j + 1, by simpa using hj, by omega⟩
/-- a link leads to a living state and one of its rests -/
def VL (A : List Nat) (W : Nat → wy) (k : Nat) : Prop := k / 4 ∈ A ∧ k % 4 < (W (k / 4)).length
theorem VL_mk {A : List Nat} {W : Nat → wy} {t j : Nat} (ht : t ∈ A) (hj : j < (W t).length) (h4 : (W t).length ≤ 4) : VL A W (4 * t + j) := by
  unfold VL
  rw [show (4 * t + j) / 4 = t by omega, show (4 * t + j) % 4 = j by omega]
  exact ⟨ht, hj⟩
theorem lnkF_VL {T : tT} {x c : Nat} {Y : List Nat} {W : Nat → wy} {A0 : List Nat} (h4 : ∀ t, t ∈ A0 → (W t).length ≤ 4) : ∀ (A : List Nat) (acc : wy), (∀ t, t ∈ A → t ∈ A0) → (∀ a ∈ acc, VL A0 W a.2) → ∀ a ∈ lnkF T x c Y W A acc, VL A0 W a.2
  | [], _, _, h => h
  | t :: A, acc, hs, h => by
    rw [lnkF_cons]
    refine lnkF_VL h4 A _ (fun u hu => hs u (List.mem_cons_of_mem _ hu)) (fun a ha => ?_)
    by_cases q : alw T x (Y.getD t 0) = true
    · rw [if_pos q] at ha
      rcases rstF_mem _ _ _ a ha with ha | ⟨j, hj, e⟩
      · exact h a ha
      · have htm := hs t (List.mem_cons_self ..)
        rw [e, show 4 * t + 0 + j = 4 * t + j by omega]
        exact VL_mk htm hj (h4 t htm)
    · rw [if_neg q] at ha; exact h a ha
theorem gth_VL {W : Nat → wy} {A0 : List Nat} (h4 : ∀ t, t ∈ A0 → (W t).length ≤ 4) : ∀ (A : List Nat) (acc : wy), (∀ t, t ∈ A → t ∈ A0) → (∀ a ∈ acc, VL A0 W a.2) → ∀ a ∈ gth W A acc, VL A0 W a.2
  | [], _, _, h => h
  | t :: A, acc, hs, h => by
    refine gth_VL h4 A (rstF 0 t 0 (W t) acc) (fun u hu => hs u (List.mem_cons_of_mem _ hu)) (fun a ha => ?_)
    rcases rstF_mem _ _ _ a ha with ha | ⟨j, hj, e⟩
    · exact h a ha
    · have htm := hs t (List.mem_cons_self ..)
      rw [e, show 4 * t + 0 + j = 4 * t + j by omega]
      exact VL_mk htm hj (h4 t htm)
/-- the next link -/
def nxt (W : Nat → wy) (k : Nat) : Nat := ((W (k / 4)).getD (k % 4) (0, 0)).2
/-- the link at place i of the row that begins with k -/
def lkA (W : Nat → Nat → wy) (k : Nat) : Nat → Nat
  | 0 => k
  | i + 1 => nxt (W i) (lkA W k i)
def rcd (St : Nat → List Nat) (W : Nat → Nat → wy) (k i : Nat) : Nat := (St i).getD (lkA W k i / 4) 0
/-- the links of the living states stand at place i -/
def RL (z : st_T) (i : Nat) (A : List Nat) (W : Nat → wy) : Prop := ∀ t, t ∈ A → ∀ (j : Nat) (a : Nat × Nat), (W t)[j]? = some a → j < 4 → z.2.1 (78 + i) (4 * t + j) = nI a.2
set_option maxHeartbeats 2000000 in
theorem e8_traceRows (l : Launch) (z : st_T) (T : tT) (hW : TW T) (hS : RS z T) {St A : Nat → List Nat} {W : Nat → Nat → wy} {R : wy} {B : Nat} (hY : ∀ i, i < T 8 2 → LY z (23 + 3 * i) (St i) ∧ (St i).length ≤ 400) (hA : ∀ i, i < T 8 2 → ∀ t, t ∈ A i → t < (St i).length ∧ (W i t).length ≤ 4) (hV : ∀ i, i + 1 < T 8 2 → ∀ k, VL (A i) (W i) k → VL (A (i + 1)) (W (i + 1)) (nxt (W i) k)) (hL : ∀ i, i < T 8 2 → RL z i (A i) (W i)) (hR4 : R.length ≤ 4) (hRB : BD B R) (hRV : ∀ a ∈ R, VL (A 0) (W 0) a.2) (hR : RW (z.2.1 99) (z.2.1 98) 0 R) (h0 : z.1 75 13 = 0) : ri_Ev l y8_traceRows w8_traceRows r8_traceRows 0 0 [.ref 91] (st_h z) (ri_zx fun z' => z'.1 75 13 = nI R.length ∧ z'.1 75 14 = z.1 75 14 ∧ (∀ (k : Nat) (a : Nat × Nat), R[k]? = some a → ∀ i, i < T 8 2 → z'.2.1 100 (16 * k + i) = nI (rcd St W a.2 i)) ∧ md [75, 100] z z') := by
  refine ri_ev (t8_traceRows l _) rfl rfl rfl (Nat.le_of_ble_eq_true rfl) rfl (z8_traceRows l _) (fun J hJ => ?_)
  have hn := hW.1
  have hVk : ∀ k, VL (A 0) (W 0) k → ∀ i, i < T 8 2 → VL (A i) (W i) (lkA (W) k i) := by
    intro k hk i
    induction i with
    | zero => intro _; exact hk
    | succ i ih => intro hi; exact hV i hi _ (ih (by omega))
  have k58 : ∀ z1 : st_T, z1.1 75 13 = nI R.length → z1.1 75 14 = z.1 75 14 → (∀ (k : Nat) (a : Nat × Nat), R[k]? = some a → ∀ i, i < T 8 2 → z1.2.1 100 (16 * k + i) = nI (rcd St W a.2 i)) → md [75, 100] z z1 → ∀ o1 o2 o3, J 58 0 0 [some (.ref 91), o1, o2, o3] [] (st_h z1) := by
    intro z1 q1 q2 q3 q4 o1 o2 o3
    refine ri_go hJ [] 90 58 rfl ?_
    exact ⟨rfl, z1, rfl, q1, q2, q3, q4⟩
  have outer : ∀ m k, m + k = R.length → ∀ z1 : st_T, z1.1 75 13 = nI k → z1.1 75 14 = z.1 75 14 → (∀ (k' : Nat) (a : Nat × Nat), k' < k → R[k']? = some a → ∀ i, i < T 8 2 → z1.2.1 100 (16 * k' + i) = nI (rcd St W a.2 i)) → md [75, 100] z z1 → ∀ o2 o3, J 2 0 0 [some (.ref 91), some (.int (nI k)), o2, o3] [] (st_h z1) := by
    intro m
    induction m with
    | zero =>
      intro k hk z1 h13 h14 hc hm o2 o3
      have hk2 : k = R.length := by omega
      have hall : ∀ (k' : Nat) (a : Nat × Nat), R[k']? = some a → ∀ i, i < T 8 2 → z1.2.1 100 (16 * k' + i) = nI (rcd St W a.2 i) := fun k' a ha => hc k' a (by have := (List.getElem?_eq_some_iff.mp ha).1; omega) ha
      have k9 : k < 4 → J 9 0 0 [some (.ref 91), some (.int (nI k)), o2, o3] [.int (z1.2.1 98 k)] (st_h z1) := by
        intro hk4
        have e : z1.2.1 98 k = -1 := by
          rw [md_F hm (by simp)]
          have := hR.2 k (by omega) hk4
          rw [Nat.zero_add] at this
          exact this
        rw [e]
        refine ri_go hJ [58] 90 9 rfl ?_
        exact ⟨fun _ => k58 z1 (by rw [h13, hk2]) h14 hall hm _ _ _, fun c => absurd rfl c⟩
      refine ri_go hJ [58, 8] 90 2 rfl ?_
      refine ⟨fun _ => k58 z1 (by rw [h13, hk2]) h14 hall hm _ _ _, fun c => ?_⟩
      have c : ¬ nI 4 ≤ nI k := c
      rw [nn_le (by decide) (by omega)] at c
      exact J_aget hJ rfl AR_98 (by omega) (k9 (by omega))
    | succ m ih =>
      intro k hk z1 h13 h14 hc hm o2 o3
      have e1 := nI_1 k
      obtain ⟨a, ha⟩ : ∃ a, R[k]? = some a := ⟨_, List.getElem?_eq_getElem (by omega)⟩
      have hk4 : k < 4 := by omega
      have e98 : z1.2.1 98 k = nI a.2 := by
        rw [md_F hm (by simp)]
        have := (hR.1 k a ha hk4).2
        rw [Nat.zero_add] at this
        exact this
      have ha31 := (hRB k a ha).2
      have hVa := hVk a.2 (hRV a (List.mem_of_getElem? ha))
      have inner : ∀ q i, q + i = T 8 2 → ∀ z2 : st_T, (∀ i', i' < i → z2.2.1 100 (16 * k + i') = nI (rcd St W a.2 i')) → (∀ j, j < 16 * k → z2.2.1 100 j = z1.2.1 100 j) → md [100] z1 z2 → ∀ lk, (i < T 8 2 → lk = nI (lkA W a.2 i)) → J 18 0 0 [some (.ref 91), some (.int (nI k)), some (.int lk), some (.int (nI i))] [] (st_h z2) := by
        intro q
        induction q with
        | zero =>
          intro i hi z2 hcd hlo hm2 lk _
          have hS2 := RS_md hS (md_tr hm (md_mo hm2 (by simp))) (by simp)
          refine ri_go hJ [2] 90 18 rfl ?_
          refine ⟨fun _ => ?_, fun c => absurd (show z2.1 1 0 ≤ nI i from ?_) c⟩
          · have := ih (k + 1) (by omega) (fs z2 75 13 (z2.1 75 13 + 1)) (by rw [fs_self, (hm2.1 75 (by simp)).1, h13, nI_1]) (by rw [fs_ff _ (by decide), (hm2.1 75 (by simp)).1]; exact h14) (fun k' b hk' hb i' hi' => ?_) (md_tr hm (md_tr (md_mo hm2 (by simp)) (md_fs (by simp)))) (some (.int lk)) (some (.int (nI i)))
            · rw [← e1] at this
              exact this
            · rw [fs_2]
              by_cases q : k' = k
              · subst q
                rw [ha] at hb; cases hb
                exact hcd i' (by omega)
              · rw [hlo _ (by omega)]
                exact hc k' b (by omega) hb i' hi'
          · rw [hS2.2.2.2.2.1]; exact nI_le (by omega) (by omega)
        | succ q ihq =>
          intro i hi z2 hcd hlo hm2 lk hlk
          have hlk := hlk (by omega)
          subst hlk
          have ei := nI_1 i
          have hi16 : i < 16 := by omega
          have hmm : md [75, 100] z z2 := md_tr hm (md_mo hm2 (by simp))
          have hS2 := RS_md hS hmm (by simp)
          have hp := lyP_of hi16
          obtain ⟨hLy, hL4⟩ := hY i (by omega)
          have hLy2 := LY_md hLy hmm (by simp; omega) (by simp; omega)
          obtain ⟨v1, v2⟩ := hVa i (by omega)
          obtain ⟨t1, t2⟩ := hA i (by omega) _ v1
          obtain ⟨x, hx⟩ : ∃ x, (St i)[lkA W a.2 i / 4]? = some x := ⟨_, List.getElem?_eq_getElem t1⟩
          obtain ⟨b, hb⟩ : ∃ b, (W i (lkA W a.2 i / 4))[lkA W a.2 i % 4]? = some b := ⟨_, List.getElem?_eq_getElem v2⟩
          have hlk4 : 4 * (lkA W a.2 i / 4) + lkA W a.2 i % 4 = lkA W a.2 i := Nat.div_add_mod _ 4
          have hlkb : lkA W a.2 i < 1600 := by omega
          have enx : lkA W a.2 (i + 1) = b.2 := by
            show ((W i (lkA W a.2 i / 4)).getD (lkA W a.2 i % 4) (0, 0)).2 = b.2
            rw [List.getD_eq_getElem?_getD, hb]; rfl
          have hlink : ∀ z3, md [100] z1 z3 → z3.2.1 (78 + i) (lkA W a.2 i) = nI b.2 := by
            intro z3 hm3
            rw [md_F (md_tr hm (md_mo hm3 (by simp)) : md [75, 100] z z3) (by simp; omega)]
            have := hL i (by omega) _ v1 _ b hb (by omega)
            rw [hlk4] at this
            exact this
          have k47 : ∀ z3 : st_T, (∀ i', i' < i + 1 → z3.2.1 100 (16 * k + i') = nI (rcd St W a.2 i')) → (∀ j, j < 16 * k → z3.2.1 100 j = z1.2.1 100 j) → md [100] z1 z3 → J 47 0 0 [some (.ref 91), some (.int (nI k)), some (.int (nI (lkA W a.2 i))), some (.int (nI i))] [.int (z3.2.1 (78 + i) (lkA W a.2 i))] (st_h z3) := by
            intro z3 q1 q2 q3
            rw [hlink z3 q3]
            refine ri_go hJ [18] 90 47 rfl ?_
            have := ihq (i + 1) (by omega) z3 q1 q2 q3 (nI b.2) (fun _ => by rw [enx])
            rw [← ei] at this
            exact this
          have k41 : ∀ z3 : st_T, (∀ i', i' < i + 1 → z3.2.1 100 (16 * k + i') = nI (rcd St W a.2 i')) → (∀ j, j < 16 * k → z3.2.1 100 j = z1.2.1 100 j) → md [100] z1 z3 → J 41 0 0 [some (.ref 91), some (.int (nI k)), some (.int (nI (lkA W a.2 i))), some (.int (nI i))] [] (st_h z3) := by
            intro z3 q1 q2 q3
            refine ri_go hJ [44] 90 41 rfl ?_
            refine J_link hJ rfl hi16 ?_
            refine ri_go hJ [46] 90 45 rfl ?_
            exact J_aget hJ rfl (AR_lk hi16) hlkb (k47 z3 q1 q2 q3)
          have k40 : J 40 0 0 [some (.ref 91), some (.int (nI k)), some (.int (nI (lkA W a.2 i))), some (.int (nI i))] [.int (z2.2.1 (23 + 3 * i + 1) (lkA W a.2 i / 4)), .int (nI (16 * k + i)), .ref (16 + 100)] (st_h z2) := by
            rw [hLy2.2 _ x hx (by omega)]
            refine J_aset hJ rfl AR_100 (by omega) (k41 _ (fun i' hi' => ?_) (fun j hj => ?_) (md_tr hm2 (md_fa (by simp))))
            · rw [fa_self]
              by_cases q : i' = i
              · subst q
                rw [pk_us]
                unfold rcd
                rw [getD_of hx]
              · rw [pk_un (by omega)]; exact hcd i' (by omega)
            · rw [fa_self, pk_un (by omega)]; exact hlo j hj
          have k36 : J 36 0 0 [some (.ref 91), some (.int (nI k)), some (.int (nI (lkA W a.2 i))), some (.int (nI i))] [.ref (17 + (23 + 3 * i)), .int (nI (16 * k + i)), .ref (16 + 100)] (st_h z2) := by
            refine ri_go hJ [39] 90 36 rfl ?_
            refine ⟨by decide, ?_⟩
            have := J_code hJ (k := 39) rfl hp (j := lkA W a.2 i / 4) (by omega) k40
            rw [show nI (lkA W a.2 i / 4) = nI (lkA W a.2 i) / 4 from (pk_div (by omega) (by decide) (by decide)).symm] at this
            exact this
          refine ri_go hJ [34] 90 18 rfl ?_
          refine ⟨fun c => absurd (show z2.1 1 0 ≤ nI i from c) ?_, fun _ => ?_⟩
          · rw [hS2.2.2.2.2.1]; exact nI_ge (by omega) (by omega)
          · have := J_layer hJ (k := 34) rfl hi16 (J_codes hJ (k := 35) rfl hp k36)
            rw [← ix16] at this
            exact this
      have k15 : J 15 0 0 [some (.ref 91), some (.int (nI k)), o2, o3] [.int (z1.2.1 98 k)] (st_h z1) := by
        rw [e98]
        refine ri_go hJ [18] 90 15 rfl ?_
        exact inner (T 8 2) 0 (Nat.add_zero _) z1 (fun i' h => absurd h (by omega)) (fun j _ => rfl) (md_rf _ _) (nI a.2) (fun _ => rfl)
      have k9 : J 9 0 0 [some (.ref 91), some (.int (nI k)), o2, o3] [.int (z1.2.1 98 k)] (st_h z1) := by
        refine ri_go hJ [58, 14] 90 9 rfl ?_
        refine ⟨fun c => absurd (show z1.2.1 98 k = -1 from c) (by rw [e98]; exact nI_m1 ha31), fun _ => J_aget hJ rfl AR_98 (by omega) k15⟩
      refine ri_go hJ [58, 8] 90 2 rfl ?_
      exact ⟨fun c => absurd c (nI_ge (a := k) (b := 4) (by omega) (by decide)), fun _ => J_aget hJ rfl AR_98 (by omega) k9⟩
  refine ri_run_ok hJ [2] 90 0 0 0 _ _ _ ?_
  exact outer R.length 0 (Nat.add_zero _) z (by rw [h0]; rfl) rfl (fun k' a h => absurd h (by omega)) (md_rf _ _) none none
