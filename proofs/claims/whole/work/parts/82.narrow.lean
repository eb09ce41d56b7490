/-! RowSearch: narrow, listAlive -/
def hd (L : wy) : Nat := (L.headD (0, 0)).1
def goW (W : Nat → wy) : Nat → Bool := fun s => !(W s).isEmpty
def nrw (m : Nat) (W : Nat → wy) : Nat → wy
  | 0 => []
  | n + 1 => if goW W n = true then insk m (nrw m W n) (hd (W n), n) else nrw m W n
theorem nrw_1 {m n : Nat} {W : Nat → wy} (h : goW W n = true) : nrw m W (n + 1) = insk m (nrw m W n) (hd (W n), n) := if_pos h
theorem nrw_0 {m n : Nat} {W : Nat → wy} (h : goW W n = false) : nrw m W (n + 1) = nrw m W n := if_neg (by rw [h]; decide)
theorem dcn_1 {f : Nat → Bool} {n : Nat} (h : f n = true) : dcn f (n + 1) = dcn f n + 1 := by
  show dcn f n + _ = _
  rw [if_pos h]
theorem dcn_0 {f : Nat → Bool} {n : Nat} (h : f n = false) : dcn f (n + 1) = dcn f n := by
  show dcn f n + _ = _
  rw [if_neg (by rw [h]; decide)]; rfl
theorem insr_perm {a : Nat × Nat} : ∀ L : wy, (insr a L).Perm (a :: L)
  | [] => List.Perm.refl _
  | b :: r => by
    unfold insr
    by_cases h : b.1 ≤ a.1
    · rw [if_pos h]
      exact ((insr_perm r).cons b).trans (List.Perm.swap a b r)
    · rw [if_neg h]
def DI (L : wy) : Prop := (L.map Prod.snd).Nodup
theorem DI_insk {m : Nat} {L : wy} {a : Nat × Nat} (h : DI L) (hn : ∀ b ∈ L, ¬ b.2 = a.2) : DI (insk m L a) := by
  have hp : ((insr a L).map Prod.snd).Perm (a.2 :: L.map Prod.snd) := (insr_perm L).map _
  have h1 : ((insr a L).map Prod.snd).Nodup := hp.nodup_iff.mpr (List.nodup_cons.mpr ⟨fun q => by
    obtain ⟨b, hb, e⟩ := List.mem_map.mp q
    exact hn b hb e, h⟩)
  unfold DI insk
  exact h1.sublist ((List.take_sublist m _).map _)
theorem insk_mem {m : Nat} {L : wy} {a x : Nat × Nat} (h : x ∈ insk m L a) : x = a ∨ x ∈ L := insr_mem.mp (List.mem_of_mem_take h)
theorem nrw_ok (m : Nat) (W : Nat → wy) : ∀ n, Srt (nrw m W n) ∧ (nrw m W n).length = min m (dcn (goW W) n) ∧ (∀ a ∈ nrw m W n, a.2 < n ∧ goW W a.2 = true ∧ a.1 = hd (W a.2)) ∧ DI (nrw m W n)
  | 0 => ⟨(WO_nil 0).2.1, by simp [nrw, dcn], fun a ha => by simp [nrw] at ha, by simp [nrw, DI]⟩
  | n + 1 => by
    obtain ⟨h1, h2, h3, h4⟩ := nrw_ok m W n
    cases h : goW W n with
    | true =>
      rw [nrw_1 h, dcn_1 h]
      refine ⟨insk_srt h1, by rw [insk_len, h2]; omega, fun a ha => ?_, DI_insk h4 (fun b hb => by have := (h3 b hb).1; show ¬ b.2 = n; omega)⟩
      rcases insk_mem ha with rfl | ha
      · exact ⟨Nat.lt_succ_self _, h, rfl⟩
      · exact ⟨Nat.lt_succ_of_lt (h3 a ha).1, (h3 a ha).2⟩
    | false =>
      rw [nrw_0 h, dcn_0 h]
      exact ⟨h1, h2, fun a ha => ⟨Nat.lt_succ_of_lt (h3 a ha).1, (h3 a ha).2⟩, h4⟩
theorem goW_f {W : Nat → wy} {s : Nat} (h : goW W s = false) : W s = [] := by
  unfold goW at h
  cases e : W s with
  | nil => rfl
  | cons a r => rw [e] at h; cases h
theorem goW_t {W : Nat → wy} {s : Nat} (h : goW W s = true) : ∃ a, (W s)[0]? = some a ∧ a.1 = hd (W s) := by
  unfold goW at h
  cases e : W s with
  | nil => rw [e] at h; cases h
  | cons a r => exact ⟨a, rfl, rfl⟩
/-- is it in the list -/
def inB (L : wy) (s : Nat) : Prop := ∃ a ∈ L, a.2 = s
theorem RW_go {f g : Nat → Int32} {q B : Nat} {L : wy} (h : RW f g q L) (hb : BD B L) : g q = -1 ↔ L = [] := by
  cases L with
  | nil => exact ⟨fun _ => rfl, fun _ => h.2 0 (Nat.zero_le _) (by decide)⟩
  | cons a r => exact ⟨fun e => absurd ((h.1 0 a rfl (by decide)).2.symm.trans e) (nI_m1 (hb 0 a rfl).2), fun e => by cases e⟩
theorem RW_upd {f g : Nat → Int32} {s s' : Nat} {x : Int32} {L : wy} (h : RW f g (4 * s) L) (hne : s ≠ s') : RW f (upd g (4 * s') x) (4 * s) L := by
  refine ⟨fun j a ha hj => ⟨(h.1 j a ha hj).1, ?_⟩, fun j h1 h2 => ?_⟩
  · rw [pk_un (by omega)]; exact (h.1 j a ha hj).2
  · rw [pk_un (by omega)]; exact h.2 j h1 h2
set_option maxHeartbeats 2000000 in
theorem e8_narrow (l : Launch) (z : st_T) {i m B : Nat} {X : List Nat} {W : Nat → wy} (hi : i < 16) (hm : m < 100) (hX : LY z (23 + 3 * i) X) (hX4 : X.length ≤ 400) (hB : B ≤ 2 ^ 31) (hW : ∀ s, s < X.length → RW (z.2.1 (sA z.2.2)) (z.2.1 (78 + i)) (4 * s) (W s) ∧ BD B (W s)) : ri_Ev l y8_narrow w8_narrow r8_narrow 0 0 [.ref 91, .int (nI i), .int (nI (m + 1))] (st_h z) (ri_zx fun z' => (∀ s, s < X.length → (inB (nrw (m + 1) W X.length) s → RW (z'.2.1 (sA z.2.2)) (z'.2.1 (78 + i)) (4 * s) (W s)) ∧ (¬ inB (nrw (m + 1) W X.length) s → z'.2.1 (78 + i) (4 * s) = -1)) ∧ (z'.1 75 8 = z.1 75 8 ∧ z'.1 75 13 = z.1 75 13 ∧ z'.1 75 14 = if m + 1 < dcn (goW W) X.length then 1 else z.1 75 14) ∧ md [75, 97, 78 + i] z z') := by
  refine ri_ev (t8_narrow l _) rfl rfl rfl (Nat.le_of_ble_eq_true rfl) rfl (z8_narrow l _) (fun J hJ => ?_)
  have hsv := sA_v z.2.2
  have hp := lyP_of hi
  have hmS : ∀ p, p = sA z.2.2 → p ∉ [75, 97, 78 + i] := fun p h q => by simp at q; omega
  have loop : ∀ n s, n + s = X.length → ∀ z1 : st_T, BL (z1.2.1 97) (nrw (m + 1) W s) → (∀ s', s' < X.length → (s ≤ s' ∨ inB (nrw (m + 1) W s) s' → RW (z1.2.1 (sA z.2.2)) (z1.2.1 (78 + i)) (4 * s') (W s')) ∧ (s' < s → ¬ inB (nrw (m + 1) W s) s' → z1.2.1 (78 + i) (4 * s') = -1)) → (z1.1 75 8 = z.1 75 8 ∧ z1.1 75 13 = z.1 75 13 ∧ z1.1 75 14 = if m + 1 < dcn (goW W) s then 1 else z.1 75 14) → md [75, 97, 78 + i] z z1 → J 9 0 0 [some (.ref 91), some (.int (nI i)), some (.int (nI (m + 1))), some (.ref (16 + (78 + i))), some (.int (nI (nrw (m + 1) W s).length)), some (.int (nI s))] [] (st_h z1) := by
    intro n
    induction n with
    | zero =>
      intro s hs z1 hBl hR hf hmd
      have hX1 := LY_md hX hmd (by simp; omega) (by simp; omega)
      have hs2 : s = X.length := by omega
      have k16 : J 16 0 0 [some (.ref 91), some (.int (nI i)), some (.int (nI (m + 1))), some (.ref (16 + (78 + i))), some (.int (nI (nrw (m + 1) W s).length)), some (.int (nI s))] [.int (nI X.length), .int (nI s)] (st_h z1) := by
        refine ri_go hJ [] 90 16 rfl ?_
        refine ⟨fun _ => ⟨rfl, z1, rfl, ?_, ?_, hmd⟩, fun c => absurd (nI_le (by omega) (by omega)) c⟩
        · intro s' h'
          rw [← hs2]
          exact ⟨fun q => (hR s' h').1 (Or.inr q), fun q => (hR s' h').2 (by omega) q⟩
        · rw [← hs2]; exact hf
      refine ri_go hJ [14] 90 9 rfl ?_
      refine J_layer hJ rfl hi ?_
      exact J_lcall hJ (as := []) (rest := [.int (nI s)]) rfl (ly_obj hp z1) (e5_keptN l z1 hp hX1 hX4) rfl rfl rfl rfl (fun r h' hr => by obtain ⟨rfl, rfl⟩ := hr; exact k16)
    | succ n ih =>
      intro s hs z1 hBl hR hf hmd
      have e1 := nI_1 s
      have eb : z1.2.2 = z.2.2 := hmd.2
      have hX1 := LY_md hX hmd (by simp; omega) (by simp; omega)
      have hsl : s < X.length := by omega
      obtain ⟨o1, o2, o3, o4⟩ := nrw_ok (m + 1) W s
      have hRs := (hR s hsl).1 (Or.inl (Nat.le_refl _))
      have hBs := (hW s hsl).2
      have fS : z1.2.1 (sA z.2.2) = z.2.1 (sA z.2.2) := md_F hmd (hmS _ rfl)
      have hSM : SM (z1.2.1 (sA z.2.2)) (nrw (m + 1) W s) := by
        intro j a ha
        obtain ⟨q1, q2, q3⟩ := o3 a (List.mem_of_getElem? ha)
        obtain ⟨b, hb, e⟩ := goW_t q2
        have := ((hW a.2 (by omega)).1.1 0 b hb (by decide)).1
        rw [fS, q3, ← e]
        exact ⟨this, by omega, by have := ((hW a.2 (by omega)).2 0 b hb).1; omega⟩
      -- behind the step
      have k43 : ∀ z2 : st_T, BL (z2.2.1 97) (nrw (m + 1) W (s + 1)) → (∀ s', s' < X.length → (s + 1 ≤ s' ∨ inB (nrw (m + 1) W (s + 1)) s' → RW (z2.2.1 (sA z.2.2)) (z2.2.1 (78 + i)) (4 * s') (W s')) ∧ (s' < s + 1 → ¬ inB (nrw (m + 1) W (s + 1)) s' → z2.2.1 (78 + i) (4 * s') = -1)) → (z2.1 75 8 = z.1 75 8 ∧ z2.1 75 13 = z.1 75 13 ∧ z2.1 75 14 = if m + 1 < dcn (goW W) (s + 1) then 1 else z.1 75 14) → md [75, 97, 78 + i] z z2 → ∀ k, k = (nrw (m + 1) W (s + 1)).length → J 43 0 0 [some (.ref 91), some (.int (nI i)), some (.int (nI (m + 1))), some (.ref (16 + (78 + i))), some (.int (nI k)), some (.int (nI s))] [] (st_h z2) := by
        intro z2 q1 q2 q3 q4 k hk
        rw [hk]
        refine ri_go hJ [9] 90 43 rfl ?_
        have := ih (s + 1) (by omega) z2 q1 q2 q3 q4
        rw [← e1] at this
        exact this
      -- the two ways of a state that goes on
      have k24 : goW W s = true → J 24 0 0 [some (.ref 91), some (.int (nI i)), some (.int (nI (m + 1))), some (.ref (16 + (78 + i))), some (.int (nI (nrw (m + 1) W s).length)), some (.int (nI s))] [] (st_h z1) := by
        intro hg
        obtain ⟨a0, ha0, hh⟩ := goW_t hg
        have hst : z1.2.1 (sA z.2.2) (4 * s) = nI (hd (W s)) := by rw [← hh]; exact (hRs.1 0 a0 ha0 (by decide)).1
        have ht : hd (W s) < 2 ^ 31 := by rw [← hh]; have := (hBs 0 a0 ha0).1; omega
        have hnew : ∀ b ∈ nrw (m + 1) W s, ¬ b.2 = s := fun b hb => by have := (o3 b hb).1; omega
        refine ri_go hJ [43] 90 24 rfl ?_
        refine ⟨fun c => ?_, fun c => ?_⟩
        · -- full
          have c : nI (m + 1) ≤ nI (nrw (m + 1) W s).length := c
          rw [nn_le (by omega) (by omega)] at c
          have hlen : (nrw (m + 1) W s).length = m + 1 := by omega
          have hdc : m + 1 ≤ dcn (goW W) s := by omega
          obtain ⟨b, hb⟩ : ∃ b, (nrw (m + 1) W s)[m]? = some b := ⟨_, List.getElem?_eq_getElem (by omega)⟩
          have hbm := List.mem_of_getElem? hb
          have ed := e8_dropWorst l (fs z1 75 14 1) (i := i) (s := s) (t := hd (W s)) (m := m) (L := nrw (m + 1) W s) (b := b) hi hm hlen hb (by omega) ht (by show z1.2.1 (sA z1.2.2) (4 * s) = _; rw [eb]; exact hst) hBl (by show SM (z1.2.1 (sA z1.2.2)) _; rw [eb]; exact hSM) o1
          refine ⟨_, ed, ?_⟩
          rintro r h' ⟨rfl, z2, rfl, hB2, hu2, hm2⟩
          have hu2 : z2.2.1 (78 + i) = upd (z1.2.1 (78 + i)) (4 * outS b (hd (W s)) s) (-1) := hu2
          have hf2 : z2.1 75 = (fs z1 75 14 1).1 75 := (hm2.1 75 (by simp; omega)).1
          have fS2 : z2.2.1 (sA z.2.2) = z1.2.1 (sA z.2.2) := md_F hm2 (by simp; omega)
          have hsub : ∀ x, x ∈ insk (m + 1) (nrw (m + 1) W s) (hd (W s), s) → x = (hd (W s), s) ∨ x ∈ nrw (m + 1) W s := fun x => insk_mem
          have hout : ¬ inB (insk (m + 1) (nrw (m + 1) W s) (hd (W s), s)) (outS b (hd (W s)) s) := by
            rintro ⟨a, ha, e⟩
            unfold outS at e
            by_cases q : hd (W s) < b.1
            · rw [if_pos q] at e
              rw [insk_drop (a := (hd (W s), s)) hlen hb q, insr_mem] at ha
              rcases ha with rfl | ha
              · exact hnew b hbm e.symm
              · obtain ⟨j, hj, ej⟩ := List.getElem_of_mem ha
                rw [List.length_take] at hj
                have hj2 : (nrw (m + 1) W s)[j]? = some a := by
                  rw [List.getElem_take] at ej
                  rw [List.getElem?_eq_getElem (by omega), ej]
                have hnd := List.pairwise_iff_getElem.mp o4 j m (by rw [List.length_map]; omega) (by rw [List.length_map]; omega) (by omega)
                rw [List.getElem_map, List.getElem_map] at hnd
                have ea := (List.getElem?_eq_some_iff.mp hj2).2
                have ebb := (List.getElem?_eq_some_iff.mp hb).2
                rw [ea, ebb] at hnd
                exact hnd e
            · rw [if_neg q] at e
              rw [insk_fullm (a := (hd (W s), s)) hlen o1 hb (show b.1 ≤ hd (W s) by omega)] at ha
              exact hnew a ha e
          have hkeep : ∀ s', ¬ s' = outS b (hd (W s)) s → inB (nrw (m + 1) W s) s' → inB (insk (m + 1) (nrw (m + 1) W s) (hd (W s), s)) s' := by
            rintro s' hne ⟨a, ha, e⟩
            unfold outS at hne
            by_cases q : hd (W s) < b.1
            · rw [if_pos q] at hne
              refine ⟨a, ?_, e⟩
              rw [insk_drop (a := (hd (W s), s)) hlen hb q, insr_mem]
              right
              obtain ⟨j, hj, ej⟩ := List.getElem_of_mem ha
              have hjm : ¬ j = m := fun q => by
                subst q
                rw [List.getElem?_eq_getElem hj, ej] at hb
                cases hb
                exact hne e.symm
              rw [List.mem_iff_getElem?]
              exact ⟨j, by rw [List.getElem?_take, if_pos (by omega), List.getElem?_eq_getElem hj, ej]⟩
            · rw [insk_fullm (a := (hd (W s), s)) hlen o1 hb (show b.1 ≤ hd (W s) by omega)]
              exact ⟨a, ha, e⟩
          have hself : ¬ s = outS b (hd (W s)) s → inB (insk (m + 1) (nrw (m + 1) W s) (hd (W s), s)) s := by
            intro hne
            unfold outS at hne
            by_cases q : hd (W s) < b.1
            · rw [insk_drop (a := (hd (W s), s)) hlen hb q]
              exact ⟨_, insr_mem.mpr (Or.inl rfl), rfl⟩
            · rw [if_neg q] at hne; exact absurd rfl hne
          refine k43 z2 (by rw [nrw_1 hg]; exact hB2) (fun s' h' => ⟨fun q => ?_, fun q1 q2 => ?_⟩) ⟨?_, ?_, ?_⟩ (md_tr hmd (md_tr (md_fs (by simp)) (md_mo hm2 (by simp)))) _ (by rw [nrw_1 hg, insk_len]; omega)
          · rw [nrw_1 hg] at q
            rw [fS2, hu2]
            have hne : ¬ s' = outS b (hd (W s)) s := by
              intro e
              rcases q with q | q
              · unfold outS at e
                by_cases q3 : hd (W s) < b.1
                · rw [if_pos q3] at e; have := (o3 b hbm).1; omega
                · rw [if_neg q3] at e; omega
              · rw [e] at q; exact hout q
            refine RW_upd ((hR s' h').1 ?_) hne
            rcases q with q | ⟨a, ha, e⟩
            · exact Or.inl (by omega)
            · rcases hsub a ha with rfl | ha
              · exact Or.inl (by show s ≤ s'; rw [← e]; exact Nat.le_refl _)
              · exact Or.inr ⟨a, ha, e⟩
          · rw [nrw_1 hg] at q2
            rw [hu2]
            by_cases hne : s' = outS b (hd (W s)) s
            · rw [hne, pk_us]
            · rw [pk_un (by omega)]
              by_cases hss : s' = s
              · rw [hss] at hne q2; exact absurd (hself hne) q2
              · exact (hR s' h').2 (by omega) (fun q => q2 (hkeep s' hne q))
          · rw [hf2]; show va_up (z1.1) 75 (va_up (z1.1 75) 14 1) 75 8 = _; rw [va_up_self, va_up_ne _ _ (by decide)]; exact hf.1
          · rw [hf2]; show va_up (z1.1) 75 (va_up (z1.1 75) 14 1) 75 13 = _; rw [va_up_self, va_up_ne _ _ (by decide)]; exact hf.2.1
          · rw [hf2, fs_self, dcn_1 hg, if_pos (by omega)]
        · -- room
          have c : ¬ nI (m + 1) ≤ nI (nrw (m + 1) W s).length := c
          rw [nn_le (by omega) (by omega)] at c
          have hdc : dcn (goW W) s = (nrw (m + 1) W s).length := by omega
          have es := e8_sortIn l z1 (s := s) (t := hd (W s)) (n := (nrw (m + 1) W s).length) (L := nrw (m + 1) W s) (by omega) rfl (by omega) ht (by rw [eb]; exact hst) hBl (by rw [eb]; exact hSM) o1
          have ek : nI (nrw (m + 1) W s).length + 1 - 1 = nI (nrw (m + 1) W s).length := by rw [nI_1]; exact nI_pred _
          rw [← ek] at es
          refine ⟨_, es, ?_⟩
          rintro r h' ⟨rfl, z2, rfl, hB2, hm2⟩
          have einsk : insk (m + 1) (nrw (m + 1) W s) (hd (W s), s) = insr (hd (W s), s) (nrw (m + 1) W s) := by
            unfold insk
            exact List.take_of_length_le (by rw [insr_len]; omega)
          have f2 : ∀ p, p ≠ 97 → z2.2.1 p = z1.2.1 p := fun p hp => md_F hm2 (by simpa using hp)
          have k := k43 z2 (by rw [nrw_1 hg, einsk]; exact hB2) (fun s' h' => ⟨fun q => ?_, fun q1 q2 => ?_⟩) ⟨?_, ?_, ?_⟩ (md_tr hmd (md_mo hm2 (by simp))) ((nrw (m + 1) W s).length + 1) (by rw [nrw_1 hg, insk_len]; omega)
          · rw [← nI_1 (nrw (m + 1) W s).length] at k
            exact k
          · rw [f2 _ (by omega), f2 _ (by omega)]
            refine (hR s' h').1 ?_
            rw [nrw_1 hg] at q
            rcases q with q | ⟨a, ha, e⟩
            · exact Or.inl (by omega)
            · rcases insk_mem ha with rfl | ha
              · exact Or.inl (by show s ≤ s'; rw [← e]; exact Nat.le_refl _)
              · exact Or.inr ⟨a, ha, e⟩
          · rw [f2 _ (by omega)]
            rw [nrw_1 hg, einsk] at q2
            have hss : ¬ s' = s := fun q => q2 ⟨_, insr_mem.mpr (Or.inl rfl), q.symm⟩
            exact (hR s' h').2 (by omega) (fun ⟨a, ha, e⟩ => q2 ⟨a, insr_mem.mpr (Or.inr ha), e⟩)
          · rw [(hm2.1 75 (by simp)).1]; exact hf.1
          · rw [(hm2.1 75 (by simp)).1]; exact hf.2.1
          · rw [(hm2.1 75 (by simp)).1, hf.2.2, dcn_1 hg, if_neg (by omega), if_neg (by omega)]
      have k22 : J 22 0 0 [some (.ref 91), some (.int (nI i)), some (.int (nI (m + 1))), some (.ref (16 + (78 + i))), some (.int (nI (nrw (m + 1) W s).length)), some (.int (nI s))] [.int (z1.2.1 (78 + i) (4 * s))] (st_h z1) := by
        refine ri_go hJ [43, 24] 90 22 rfl ?_
        refine ⟨fun c => ?_, fun c => k24 ?_⟩
        · have c : z1.2.1 (78 + i) (4 * s) = -1 := c
          have hnil := (RW_go hRs hBs).mp c
          have hg : goW W s = false := by unfold goW; rw [hnil]; rfl
          refine k43 z1 (by rw [nrw_0 hg]; exact hBl) (fun s' h' => ⟨fun q => (hR s' h').1 ?_, fun q1 q2 => ?_⟩) (by rw [dcn_0 hg]; exact hf) hmd _ (by rw [nrw_0 hg])
          · rw [nrw_0 hg] at q
            exact q.imp (fun q => by omega) id
          · by_cases hss : s' = s
            · rw [hss]; exact c
            · rw [nrw_0 hg] at q2
              exact (hR s' h').2 (by omega) q2
        · have c : ¬ z1.2.1 (78 + i) (4 * s) = -1 := c
          cases hg : goW W s with
          | true => rfl
          | false => exact absurd ((RW_go hRs hBs).mpr (goW_f hg)) c
      have k16 : J 16 0 0 [some (.ref 91), some (.int (nI i)), some (.int (nI (m + 1))), some (.ref (16 + (78 + i))), some (.int (nI (nrw (m + 1) W s).length)), some (.int (nI s))] [.int (nI X.length), .int (nI s)] (st_h z1) := by
        refine ri_go hJ [21] 90 16 rfl ?_
        refine ⟨fun c => absurd c (nI_ge (by omega) (by omega)), fun _ => ?_⟩
        have := J_aget hJ (k := 21) rfl (AR_lk hi) (by omega) k22
        rw [← mul4] at this
        exact this
      refine ri_go hJ [14] 90 9 rfl ?_
      refine J_layer hJ rfl hi ?_
      exact J_lcall hJ (as := []) (rest := [.int (nI s)]) rfl (ly_obj hp z1) (e5_keptN l z1 hp hX1 hX4) rfl rfl rfl rfl (fun r h' hr => by obtain ⟨rfl, rfl⟩ := hr; exact k16)
  have k4 : J 4 0 0 [some (.ref 91), some (.int (nI i)), some (.int (nI (m + 1))), none, none, none] [.ref (16 + (78 + i))] (st_h z) := by
    refine ri_go hJ [9] 90 4 rfl ?_
    exact loop X.length 0 (Nat.add_zero _) z (fun j a ha => by simp [nrw] at ha) (fun s' h' => ⟨fun _ => (hW s' h').1, fun q => absurd q (by omega)⟩) ⟨rfl, rfl, by rw [if_neg (by show ¬ m + 1 < 0; omega)]⟩ (md_rf _ _)
  refine ri_run_ok hJ [3] 90 0 0 0 _ _ _ ?_
  exact J_link hJ rfl hi k4
