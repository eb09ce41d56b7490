/-! THE REFERENCE: states, findAll, firstBarred -/
theorem e10_states (l : Launch) (z : st_T) (T : tT) (Q : tQ) (hW : TW T) (hI : MI z T Q) (i : Int32) : ri_Ev l y10_states w10_states r10_states 0 0 [.ref 117, .int i] (st_h z) (MO z (sp_states T Q i)) := by
  have hI0 := MI_0 hI
  refine ri_ev (t10_states l _) rfl rfl rfl (Nat.le_of_ble_eq_true rfl) rfl (z10_states l _) (fun J hJ => ?_)
  refine ri_run_ok hJ [] 90 0 0 0 _ _ _ ?_
  refine ⟨_, e10_noPlace l (m0 z) T hI0.1 i, ?_⟩
  rintro r h' ⟨rfl, rfl⟩
  refine ⟨fun c1 => ?_, fun c => MO_same hI (by unfold sp_states; rw [zbn_1.mp c]; rfl)⟩
  have b1 := zbn_0.mp c1
  obtain ⟨i1, i2⟩ := okP_le hW b1
  have e := e10_findA l (m0 z) T hW hI0.1 (i := nt i) i1 false
  rw [i2] at e
  refine ⟨_, e, ?_⟩
  rintro r h' ⟨n, z', rfl, rfl, hIA⟩
  obtain ⟨hn, hE, -⟩ := findA_end hW i1 hIA
  have hmm : mm [0, 32] [114, 115, 116, 127] z z' := mm_tr (mm_mo (m0_mm z) (by decide) (by decide)) (mm_mo hE.2.2 (by decide) (by decide))
  refine MO_mm (T := T) (Q := Q) ?_ (MI_mm hI hmm (by decide) (by decide)) hmm (by decide)
  unfold sp_states
  rw [b1, hn]; rfl
def MA (z : st_T) (T : tT) (n : Nat) : Prop := ∀ i, i < n → z.2.1 117 i = nI (stL T i).length ∧ MS z T i (stL T i)
theorem MS_EF {z z' : st_T} {T : tT} {i j : Nat} {L : List Nat} (h : MS z T j L) (hE : EF z z' i) (hne : ¬ j = i) : MS z' T j L := by
  intro k y hk h4
  obtain ⟨a, b, c⟩ := h k y hk h4
  refine ⟨fun v hv => ?_, ?_, ?_⟩
  · rw [hE.1 _ (by omega)]; exact a v hv
  · rw [(hE.2.1 _ (by omega)).1]; exact b
  · rw [(hE.2.1 _ (by omega)).2]; exact c
theorem e10_findAll (l : Launch) (z : st_T) (T : tT) (hW : TW T) (hM : RM z T) : ri_Ev l y10_findAll w10_findAll r10_findAll 0 0 [.ref 117] (st_h z) (fun r h' => ∃ z', r = some (.int (zb (!ovf T))) ∧ h' = st_h z' ∧ mm [32] [114, 115, 116, 117, 127] z z' ∧ (ovf T = false → MA z' T (T 8 2))) := by
  refine ri_ev (t10_findAll l _) rfl rfl rfl (Nat.le_of_ble_eq_true rfl) rfl (z10_findAll l _) (fun J hJ => ?_)
  have hn := hW.1
  have loop : ∀ n i, n + i = T 8 2 → ovf T = anf (ovP T) n i → ∀ z1, mm [32] [114, 115, 116, 117, 127] z z1 → MA z1 T i → J 2 0 0 [some (.ref 117), some (.int (nI i))] [] (st_h z1) := by
    intro n
    induction n with
    | zero =>
      intro i hi e z1 hm hA
      have hM1 := RM_mm hM hm (by decide) (by decide)
      refine ri_go hJ [] 90 2 rfl ?_
      refine ⟨fun _ => ⟨rfl, z1, ?_, rfl, hm, fun _ => ?_⟩, fun c => absurd (show z1.1 101 7 ≤ nI i from ?_) c⟩
      · rw [e]; rfl
      · rw [show T 8 2 = i by omega]; exact hA
      · rw [hM1.1.2.2]; exact nI_le (by omega) (by omega)
    | succ n ih =>
      intro i hi e z1 hm hA
      have e1 := nI_1 i
      have hM1 := RM_mm hM hm (by decide) (by decide)
      have ii : vp_in (nI i) 16 := vp_in_nI (by omega) (by decide)
      have ci : (nI i).toNatClampNeg = i := cl31 (by omega)
      refine ri_go hJ [2] 90 2 rfl ?_
      refine ⟨fun c => absurd (show z1.1 101 7 ≤ nI i from c) ?_, fun _ => ⟨_, e10_findA l z1 T hW hM1 (i := i) (by omega) true, ?_⟩⟩
      · rw [hM1.1.2.2]; exact nI_ge (by omega) (by omega)
      · rintro r h' ⟨k, z2, rfl, rfl, hIA⟩
        obtain ⟨hk, hE, hMS⟩ := findA_end hW (by omega) hIA
        have hlen := stL_len T i
        have ev : upd (z2.2.1 117) (nI i).toNatClampNeg k (nI i).toNatClampNeg = nI (stL T i).length := by rw [pk_us, hk]
        have hm2 : mm [32] [114, 115, 116, 117, 127] z (fa z2 117 (upd (z2.2.1 117) (nI i).toNatClampNeg k)) := mm_tr hm (mm_tr (mm_mo hE.2.2 (by decide) (by decide)) (mm_fa (by decide)))
        refine ⟨ii, ii, fun q => ?_, fun q => ⟨rfl, fa z2 117 (upd (z2.2.1 117) (nI i).toNatClampNeg k), ?_, rfl, hm2, fun h => ?_⟩⟩
        · have q : upd (z2.2.1 117) (nI i).toNatClampNeg k (nI i).toNatClampNeg ≤ nI 400 := q
          rw [ev, nn_le (by omega) (by decide)] at q
          have := ih (i + 1) (by omega) (by rw [e, anf_f (show ovP T i = false from decide_eq_false (by omega))]) (fa z2 117 (upd (z2.2.1 117) (nI i).toNatClampNeg k)) hm2 (fun j hj => ?_)
          · rw [← e1] at this
            exact this
          · by_cases ej : j = i
            · subst ej
              refine ⟨?_, MS_mm (hMS rfl q) (fa_ne _ _ (by decide)) (fa_ne _ _ (by decide)) (fa_ne _ _ (by decide))⟩
              rw [fa_self, ci, pk_us, hk]
            · obtain ⟨a1, a2⟩ := hA j (by omega)
              refine ⟨?_, MS_mm (MS_EF a2 hE ej) (fa_ne _ _ (by decide)) (fa_ne _ _ (by decide)) (fa_ne _ _ (by decide))⟩
              rw [fa_self, ci, pk_un ej, hE.2.2.1 117 (by decide)]; exact a1
        · have q : ¬ upd (z2.2.1 117) (nI i).toNatClampNeg k (nI i).toNatClampNeg ≤ nI 400 := q
          rw [ev, nn_le (by omega) (by decide)] at q
          rw [e, anf_t (show ovP T i = true from decide_eq_true (by omega))]; rfl
        · have q : ¬ upd (z2.2.1 117) (nI i).toNatClampNeg k (nI i).toNatClampNeg ≤ nI 400 := q
          rw [ev, nn_le (by omega) (by decide)] at q
          rw [e, anf_t (show ovP T i = true from decide_eq_true (by omega))] at h
          cases h
  refine ri_run_ok hJ [2] 90 0 0 0 _ _ _ ?_
  exact loop (T 8 2) 0 rfl rfl z (mm_rf _ _ _) (fun i hi => absurd hi (by omega))
-- a step is allowed where nothing bars it
theorem alw_brs (T : tT) (x y : Nat) : brs T x y = 0 ↔ alw T x y = true := by
  unfold brs alw
  generalize b7 x y = b7
  generalize anf (b8 x y) 3 0 = b8
  generalize anf (b9 x y) 4 0 = b9
  generalize anf (b10 x y) 3 0 = b10
  generalize b11 T x y = b11
  generalize b12 T x y = b12
  revert b7 b8 b9 b10 b11 b12
  decide
theorem i_orc (a b : Int32) : a ||| b = b ||| a := by
  apply Int32.toBitVec_inj.mp
  rw [Int32.toBitVec_or, Int32.toBitVec_or, BitVec.or_comm]
theorem i_ora (a b c : Int32) : (a ||| b) ||| c = a ||| (b ||| c) := by
  apply Int32.toBitVec_inj.mp
  simp only [Int32.toBitVec_or, BitVec.or_assoc]
theorem i_0or (a : Int32) : 0 ||| a = a := by rw [i_orc, i_or0]
theorem orL_0 : ∀ X : List Nat, orL (fun _ => 0) X = 0
  | [] => rfl
  | x :: X => by
    show (0 : Int32) ||| orL (fun _ => 0) X = 0
    rw [orL_0 X]; rfl
theorem orL_or (f g : Nat → Int32) : ∀ X : List Nat, orL (fun x => f x ||| g x) X = orL f X ||| orL g X
  | [] => (i_or0 0).symm
  | x :: X => by
    show (f x ||| g x) ||| orL (fun x => f x ||| g x) X = (f x ||| orL f X) ||| (g x ||| orL g X)
    rw [orL_or f g X, i_ora, i_ora, ← i_ora (g x), i_orc (g x) (orL f X), i_ora]
theorem orL_sw (h : Nat → Nat → Int32) (X : List Nat) : ∀ Y : List Nat, orL (fun x => orL (h x) Y) X = orL (fun y => orL (fun x => h x y) X) Y
  | [] => orL_0 X
  | y :: Y => by
    show orL (fun x => h x y ||| orL (h x) Y) X = orL (fun x => h x y) X ||| orL (fun y => orL (fun x => h x y) X) Y
    rw [orL_or, orL_sw h X Y]
theorem orL_cg {f g : Nat → Int32} : ∀ X : List Nat, (∀ x, f x = g x) → orL f X = orL g X := fun X h => by rw [show f = g from funext h]
/-- the rules that bar the step into y, from the states that rows come to -/
def sbF (T : tT) (i y x : Nat) : Int32 := if come T i x = true then brs T x y else 0
theorem stp_sw (T : tT) (i : Nat) (X Y : List Nat) : orL (fun x => if come T i x = true then orL (brs T x) Y else 0) X = orL (fun y => orL (sbF T i y) X) Y := by
  rw [← orL_sw (fun x y => sbF T i y x)]
  refine orL_cg X (fun x => ?_)
  unfold sbF
  by_cases q : come T i x = true
  · rw [if_pos q]
    exact orL_cg Y (fun y => by rw [if_pos q])
  · rw [if_neg q, show (fun y => if come T i x = true then brs T x y else 0) = fun _ => 0 from funext fun y => if_neg q, orL_0]
theorem stp_eq (T : tT) (i : Nat) : stp T i = orL (fun y => orL (sbF T i y) (stL T i)) (stL T (i + 1)) := by
  unfold stp stpF
  exact stp_sw T i _ _
/-- the marks of place i say to which states rows come -/
def IC (z : st_T) (c : Nat → Bool) (i : Nat) (X : List Nat) : Prop := ∀ (s x : Nat), X[s]? = some x → z.2.1 123 (400 * i + s) = zb (c x)
theorem nar_zb (b : Bool) : vp_nar .boolean (zb b) = zb b := by cases b <;> rfl
theorem EC_of {z : st_T} {T : tT} {s y : Nat} (h : EN z T s y) : EC z s y := ⟨h.1, h.2.1⟩
def fuG (X : Nat → List Nat) (c : Nat → Nat → Bool) : Nat → Nat → Nat
  | 0, _ => 99
  | n + 1, i => if (X i).any (c i) = true then fuG X c n (i + 1) else i
theorem fuG_F (T : tT) : ∀ n i, fuF T n i = fuG (stL T) (come T) n i
  | 0, _ => rfl
  | n + 1, i => by
    unfold fuF fuG
    rw [fuG_F T n (i + 1)]
def sbG (T : tT) (c : Nat → Bool) (y x : Nat) : Int32 := if c x = true then brs T x y else 0
theorem orL_cons2 (f : Nat → Int32) (x : Nat) (X : List Nat) : orL f (x :: X) = f x ||| orL f X := rfl
