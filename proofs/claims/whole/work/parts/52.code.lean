/-! Code's methods in whole numbers; scratch cells -/
theorem sh_amt2 {k : Nat} (h : k < 32) : ((nI k &&& 31).toBitVec.smod 32).toNat = k := sh_amt k h
theorem jv_pitch_n {x v : Nat} (hx : x < 2 ^ 28) (hv : v < 4) : jv_pitch (nI x) (nI v) = nI (pit x v) := by
  unfold jv_pitch pit
  have e1 : (4 : Int32) + 6 * (3 - nI v) = nI (4 + 6 * (3 - v)) := by
    rw [show (3 : Int32) = nI 3 from rfl, show (6 : Int32) = nI 6 from rfl, show (4 : Int32) = nI 4 from rfl, pk_sub (by omega), pk_mul, nI_add]
  rw [e1, pk_shrN (by omega) _ (4 + 6 * (3 - v)) (sh_amt2 (by omega)), pk_andN (Nat.lt_of_le_of_lt (Nat.div_le_self _ _) (by omega)) 6 (by decide), show (36 : Int32) = nI 36 from rfl, nI_add]
theorem pit_lt (x v : Nat) : pit x v < 100 ∧ 36 ≤ pit x v := by
  unfold pit
  have := Nat.mod_lt (x / 2 ^ (4 + 6 * (3 - v))) (show 0 < 64 by decide)
  omega
theorem chd_n {x : Nat} (hx : x < 2 ^ 28) : nI x &&& 15 = nI (chd x) := pk_andN (by omega) 4 (by decide)
theorem e11_pitchN (l : Launch) {x v : Nat} (hx : x < 2 ^ 28) (hv : v < 4) (h : List ri_C) : ri_Ev l y11_pitchOf w11_pitchOf r11_pitchOf 0 0 [.int (nI x), .int (nI v)] h (ri_is (nI (pit x v)) h) := by
  rw [← jv_pitch_n hx hv]
  exact e11_pitchOf l _ _ h
theorem e11_chordN (l : Launch) {x : Nat} (hx : x < 2 ^ 28) (h : List ri_C) : ri_Ev l y11_chordOf w11_chordOf r11_chordOf 0 0 [.int (nI x)] h (ri_is (nI (chd x)) h) := by
  rw [← chd_n hx]
  exact e11_chordOf l _ h
/-- how often a class is there -/
def cntc (x p : Nat) : Nat := (if pit x 3 % 12 = p then 1 else 0) + (if pit x 2 % 12 = p then 1 else 0) + (if pit x 1 % 12 = p then 1 else 0) + (if pit x 0 % 12 = p then 1 else 0)
theorem tcls_1 {w t p : Nat} (hw : w < 2 ^ 28) (hp : p < 2 ^ 31) (n : Nat) : tcls (nI p) (n + 1) (nI w) (nI t) = tcls (nI p) n (nI (w / 64)) (nI (t + (if (36 + w % 64) % 12 = p then 1 else 0))) := by
  have hm := Nat.mod_lt w (show 0 < 64 by decide)
  have e1 : nI w >>> ((6 : Int32) &&& 31) = nI (w / 64) := pk_shrN (by omega) _ 6 (sh_amt2 (k := 6) (by decide))
  have e2 : jrem (36 + (nI w &&& 63)) 12 = nI ((36 + w % 64) % 12) := by
    unfold jrem
    rw [pk_andN (by omega) 6 (by decide), show (36 : Int32) = nI 36 from rfl, nI_add]
    exact rem12 (by omega)
  show tcls (nI p) n (nI w >>> ((6 : Int32) &&& 31)) (if jrem (36 + (nI w &&& 63)) 12 = nI p then nI t + 1 else nI t) = _
  rw [e1, e2]
  by_cases h : (36 + w % 64) % 12 = p
  · rw [if_pos (by rw [h]), if_pos h, nI_1]
  · rw [if_neg (fun q => h ((nI_eq (by omega) hp).mp q)), if_neg h]; rfl
theorem tcls_n {x p : Nat} (hx : x < 2 ^ 28) (hp : p < 2 ^ 31) : tcls (nI p) 4 (nI x >>> ((4 : Int32) &&& 31)) 0 = nI (cntc x p) := by
  have e0 : nI x >>> ((4 : Int32) &&& 31) = nI (x / 16) := pk_shrN (by omega) _ 4 (sh_amt2 (k := 4) (by decide))
  have hd : ∀ y k, y < 2 ^ 28 → y / k < 2 ^ 28 := fun y k h => Nat.lt_of_le_of_lt (Nat.div_le_self _ _) h
  rw [e0, show (0 : Int32) = nI 0 from rfl, tcls_1 (hd _ _ hx) hp, tcls_1 (hd _ _ (hd _ _ hx)) hp, tcls_1 (hd _ _ (hd _ _ (hd _ _ hx))) hp, tcls_1 (hd _ _ (hd _ _ (hd _ _ (hd _ _ hx)))) hp]
  show nI _ = nI _
  unfold cntc pit
  simp only [Nat.div_div_eq_div_mul]
  rw [Nat.zero_add]
theorem e11_timesN (l : Launch) {x p : Nat} (hx : x < 2 ^ 28) (hp : p < 2 ^ 31) (h : List ri_C) : ri_Ev l y11_timesClass w11_timesClass r11_timesClass 0 0 [.int (nI x), .int (nI p)] h (ri_is (nI (cntc x p)) h) := by
  rw [← tcls_n hx hp]
  exact e11_timesClass l _ _ h
/-- which places a call may change: those of the list -/
def md (ps : List Nat) (z z' : st_T) : Prop := (∀ p, p ∉ ps → z'.1 p = z.1 p ∧ z'.2.1 p = z.2.1 p) ∧ z'.2.2 = z.2.2
theorem md_rf (ps : List Nat) (z : st_T) : md ps z z := ⟨fun _ _ => ⟨rfl, rfl⟩, rfl⟩
theorem md_tr {ps : List Nat} {z z' z'' : st_T} (h : md ps z z') (h' : md ps z' z'') : md ps z z'' := ⟨fun p hp => ⟨(h'.1 p hp).1.trans (h.1 p hp).1, (h'.1 p hp).2.trans (h.1 p hp).2⟩, h'.2.trans h.2⟩
theorem md_mo {ps qs : List Nat} {z z' : st_T} (h : md ps z z') (hs : ∀ p ∈ ps, p ∈ qs) : md qs z z' := ⟨fun p hp => h.1 p (fun q => hp (hs p q)), h.2⟩
theorem md_fa {ps : List Nat} {z : st_T} {p : Nat} {g : Nat → Int32} (hp : p ∈ ps) : md ps z (fa z p g) := ⟨fun q hq => ⟨rfl, va_up_ne _ _ (fun e => hq (e ▸ hp))⟩, rfl⟩
theorem md_fs {ps : List Nat} {z : st_T} {p f : Nat} {x : Int32} (hp : p ∈ ps) : md ps z (fs z p f x) := ⟨fun q hq => ⟨va_up_ne _ _ (fun e => hq (e ▸ hp)), rfl⟩, rfl⟩
theorem RH_md {ps : List Nat} {z z' : st_T} {T : tT} (h : RH z T) (hm : md ps z z') (hd : ∀ p ∈ ps, p < 9 ∨ 13 < p) : RH z' T := by
  have hp : ∀ p, 9 ≤ p → p ≤ 13 → z'.1 p = z.1 p ∧ z'.2.1 p = z.2.1 p := fun p h1 h2 => hm.1 p (fun q => by have := hd p q; omega)
  unfold RH
  rw [(hp 9 (by decide) (by decide)).1, (hp 10 (by decide) (by decide)).2, (hp 11 (by decide) (by decide)).2, (hp 12 (by decide) (by decide)).2, (hp 13 (by decide) (by decide)).2]
  exact h
theorem RS_md {ps : List Nat} {z z' : st_T} {T : tT} (h : RS z T) (hm : md ps z z') (hd : ∀ p ∈ ps, 8 < p) : RS z' T := by
  have hp : ∀ p, p ≤ 8 → z'.1 p = z.1 p ∧ z'.2.1 p = z.2.1 p := fun p h1 => hm.1 p (fun q => by have := hd p q; omega)
  unfold RS
  rw [(hp 1 (by decide)).1, (hp 2 (by decide)).2, (hp 3 (by decide)).2, (hp 4 (by decide)).2, (hp 5 (by decide)).2, (hp 6 (by decide)).2, (hp 7 (by decide)).2, (hp 8 (by decide)).2]
  exact h
/-- the four pitches of a code, laid into an array of the heap -/
def up4 (f : Nat → Int32) (x : Nat) : Nat → Int32 := upd (upd (upd (upd f 3 (nI (pit x 3))) 2 (nI (pit x 2))) 1 (nI (pit x 1))) 0 (nI (pit x 0))
theorem up4_at (f : Nat → Int32) (x : Nat) {v : Nat} (hv : v < 4) : up4 f x v = nI (pit x v) := by
  unfold up4
  match v, hv with
  | 0, _ => rfl
  | 1, _ => rfl
  | 2, _ => rfl
  | 3, _ => rfl
theorem unp_step {x k : Nat} (hx : x < 2 ^ 28) : ((36 : Int32) + (nI (x / 2 ^ k) &&& 63)) = nI (36 + x / 2 ^ k % 64) ∧ nI (x / 2 ^ k) >>> ((6 : Int32) &&& 31) = nI (x / 2 ^ (k + 6)) := by
  have hd : x / 2 ^ k < 2 ^ 28 := Nat.lt_of_le_of_lt (Nat.div_le_self _ _) hx
  refine ⟨?_, ?_⟩
  · rw [pk_andN (by omega) 6 (by decide), show (36 : Int32) = nI 36 from rfl, nI_add]
  · rw [show ((6 : Int32) &&& 31) = nI 6 &&& 31 from rfl, pk_shrN (n := x / 2 ^ k) (by omega) _ 6 (sh_amt2 (k := 6) (by decide)), Nat.div_div_eq_div_mul, Nat.pow_add]
theorem e11_unpack (l : Launch) {x : Nat} (hx : x < 2 ^ 28) (h : List ri_C) {q : Nat} {f : Nat → Int32} (hq : Nat.ble 16 q = true) (hat : h[q - 16]? = some (.inl (0, 4, .inl f))) : ri_Ev l y11_unpack w11_unpack r11_unpack 0 0 [.int (nI x), .ref q] h (ri_vo (h.set (q - 16) (.inl (0, 4, .inl (up4 f x))))) := by
  refine ri_ev (t11_unpack l _) rfl rfl rfl (Nat.le_of_ble_eq_true rfl) rfl (z11_unpack l _) (fun J hJ => ?_)
  have e0 : nI x >>> ((4 : Int32) &&& 31) = nI (x / 2 ^ 4) := pk_shrN (by omega) _ 4 (sh_amt2 (k := 4) (by decide))
  have hlt : q - 16 < h.length := (List.getElem?_eq_some_iff.mp hat).1
  have body : ∀ (n k : Nat) (g : Nat → Int32), n < 4 → J 6 0 0 [some (.int (nI x)), some (.ref q), some (.int (nI (x / 2 ^ (k + 6)))), some (.int (nI n + (-1)))] [] (h.set (q - 16) (.inl (0, 4, .inl (upd g n (nI (36 + x / 2 ^ k % 64)))))) → J 6 0 0 [some (.int (nI x)), some (.ref q), some (.int (nI (x / 2 ^ k))), some (.int (nI n))] [] (h.set (q - 16) (.inl (0, 4, .inl g))) := by
    intro n k g hn hgo
    obtain ⟨s1, s2⟩ := unp_step (k := k) hx
    have hat2 : ri_at (h.set (q - 16) (.inl (0, 4, .inl g))) q = some (.inl (0, 4, .inl g)) := by
      rw [ri_at_hi hq, List.getElem?_set_self hlt]
    refine ri_go hJ [6] 30 6 rfl ?_
    refine ⟨fun c => absurd c (nI_pos (by omega)), fun _ => ?_⟩
    conv => whnf
    rw [hat2]
    refine ⟨vp_in_nI hn (by decide), ?_⟩
    conv => whnf
    rw [hq]
    rw [List.set_set, cl31 (by omega)]
    rw [← s1, ← s2] at hgo
    exact hgo
  have hself : h = h.set (q - 16) (.inl (0, 4, .inl f)) := by
    apply List.ext_getElem?
    intro i
    rw [List.getElem?_set]
    by_cases hi : q - 16 = i
    · subst hi; rw [hat]; simp [hlt]
    · simp [hi]
  have hend : J 6 0 0 [some (.int (nI x)), some (.ref q), some (.int (nI (x / 2 ^ 28))), some (.int (nI 0 + (-1)))] [] (h.set (q - 16) (.inl (0, 4, .inl (up4 f x)))) := by
    refine ri_go hJ [6] 30 6 rfl ?_
    exact ⟨fun _ => ⟨rfl, rfl⟩, fun c => absurd (by decide) c⟩
  refine ri_run_ok hJ [6] 30 0 0 0 _ _ _ ?_
  show J 6 0 0 [some (.int (nI x)), some (.ref q), some (.int (nI x >>> ((4 : Int32) &&& 31))), some (.int 3)] [] h
  rw [e0, hself]
  exact body 3 4 f (by decide) (body 2 10 _ (by decide) (body 1 16 _ (by decide) (body 0 22 _ (by decide) hend)))
