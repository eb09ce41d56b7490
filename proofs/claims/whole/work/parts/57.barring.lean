theorem ri_bit {b : Bool} {k : Int32} {P : Int32 → Prop} (h : P (bit b k)) : (zb b = 0 → P 0) ∧ (¬ zb b = 0 → P k) := by
  cases b with
  | true => exact ⟨fun q => absurd q (by decide), fun _ => h⟩
  | false => exact ⟨fun _ => h, fun q => absurd rfl q⟩
theorem e3_barring (l : Launch) (z : st_T) (T : tT) {x y : Nat} (hR : RH z T) (hx : CK x) (hy : CK y) : ri_Ev l y3_barring w3_barring r3_barring 0 0 [.ref 34, .int (nI x), .int (nI y)] (st_h z) (ri_is (brs T x y) (st_h (lkz z x y))) := by
  refine ri_ev (t3_barring l _) rfl rfl rfl (Nat.le_of_ble_eq_true rfl) rfl (z3_barring l _) (fun J hJ => ?_)
  have hL := LK_lkz z x y
  have hR' := RH_md hR (md_lkz z x y) (by decide)
  have k44 : ∀ a b', a ||| b' = brs T x y → J 44 0 0 [some (.ref 34), some (.int (nI x)), some (.int (nI y))] [.int b', .int a] (st_h (lkz z x y)) := by
    intro a b' e
    refine ri_go hJ [] 90 44 rfl ?_
    exact ⟨by rw [← e], rfl⟩
  have k37 : ∀ a b', (a ||| b') ||| bit (b12 T x y) 4096 = brs T x y → J 37 0 0 [some (.ref 34), some (.int (nI x)), some (.int (nI y))] [.int b', .int a] (st_h (lkz z x y)) := by
    intro a b' e
    refine ri_go hJ [44] 90 37 rfl ?_
    refine ⟨_, e3_breaks12 l _ T hR' hL hx.2.1, ?_⟩
    rintro r h' ⟨rfl, rfl⟩
    exact ri_bit (P := fun k => J 44 0 0 [some (.ref 34), some (.int (nI x)), some (.int (nI y))] [.int k, .int (a ||| b')] (st_h (lkz z x y))) (k44 _ _ e)
  have k30 : ∀ a b', ((a ||| b') ||| bit (b11 T x y) 2048) ||| bit (b12 T x y) 4096 = brs T x y → J 30 0 0 [some (.ref 34), some (.int (nI x)), some (.int (nI y))] [.int b', .int a] (st_h (lkz z x y)) := by
    intro a b' e
    refine ri_go hJ [37] 90 30 rfl ?_
    refine ⟨_, e3_breaks11 l _ T hR' hL, ?_⟩
    rintro r h' ⟨rfl, rfl⟩
    exact ri_bit (P := fun k => J 37 0 0 [some (.ref 34), some (.int (nI x)), some (.int (nI y))] [.int k, .int (a ||| b')] (st_h (lkz z x y))) (k37 _ _ e)
  have k23 : ∀ a b', (((a ||| b') ||| bit (anf (b10 x y) 3 0) 1024) ||| bit (b11 T x y) 2048) ||| bit (b12 T x y) 4096 = brs T x y → J 23 0 0 [some (.ref 34), some (.int (nI x)), some (.int (nI y))] [.int b', .int a] (st_h (lkz z x y)) := by
    intro a b' e
    refine ri_go hJ [30] 90 23 rfl ?_
    refine ⟨_, e3_breaks10 l _ hL, ?_⟩
    rintro r h' ⟨rfl, rfl⟩
    exact ri_bit (P := fun k => J 30 0 0 [some (.ref 34), some (.int (nI x)), some (.int (nI y))] [.int k, .int (a ||| b')] (st_h (lkz z x y))) (k30 _ _ e)
  have k16 : ∀ a b', ((((a ||| b') ||| bit (anf (b9 x y) 4 0) 512) ||| bit (anf (b10 x y) 3 0) 1024) ||| bit (b11 T x y) 2048) ||| bit (b12 T x y) 4096 = brs T x y → J 16 0 0 [some (.ref 34), some (.int (nI x)), some (.int (nI y))] [.int b', .int a] (st_h (lkz z x y)) := by
    intro a b' e
    refine ri_go hJ [23] 90 16 rfl ?_
    refine ⟨_, e3_breaks9 l _ hL, ?_⟩
    rintro r h' ⟨rfl, rfl⟩
    exact ri_bit (P := fun k => J 23 0 0 [some (.ref 34), some (.int (nI x)), some (.int (nI y))] [.int k, .int (a ||| b')] (st_h (lkz z x y))) (k23 _ _ e)
  have k10 : J 10 0 0 [some (.ref 34), some (.int (nI x)), some (.int (nI y))] [.int (bit (b7 x y) 128)] (st_h (lkz z x y)) := by
    refine ri_go hJ [16] 90 10 rfl ?_
    refine ⟨_, e3_breaks8 l _ hL hx.2.2 hy.2.2, ?_⟩
    rintro r h' ⟨rfl, rfl⟩
    exact ri_bit (P := fun k => J 16 0 0 [some (.ref 34), some (.int (nI x)), some (.int (nI y))] [.int k, .int (bit (b7 x y) 128)] (st_h (lkz z x y))) (k16 _ _ rfl)
  refine ri_run_ok hJ [10] 90 0 0 0 _ _ _ ?_
  refine ⟨_, e3_lookAt l z hx.1 hy.1, ?_⟩
  rintro r h' ⟨rfl, rfl⟩
  refine ⟨_, e3_breaks7 l _ T hR' hL hx.2.1 hy.2.1, ?_⟩
  rintro r h' ⟨rfl, rfl⟩
  exact ri_bit (P := fun k => J 10 0 0 [some (.ref 34), some (.int (nI x)), some (.int (nI y))] [.int k] (st_h (lkz z x y))) k10
