/-! THE REFERENCE: small functions; count, passing -/
theorem neg_0 (x : Int32) : -x = 0 - x := by
  apply Int32.toBitVec_inj.mp
  simp
theorem e10_sizeN (l : Launch) (h : List ri_C) {a b : Nat} (ha : a < 2 ^ 30) (hb : b < 2 ^ 30) : ri_Ev l y10_size w10_size r10_size 0 0 [.int (nI a - nI b)] h (ri_is (nI (dst a b)) h) := by
  refine ri_ev (t10_size l _) rfl rfl rfl (Nat.le_of_ble_eq_true rfl) rfl (z10_size l _) (fun J hJ => ?_)
  refine ri_run_ok hJ [] 90 0 0 0 _ _ _ ?_
  have e := dst_abs ha hb
  refine ⟨fun c => ⟨?_, rfl⟩, fun c => ⟨?_, rfl⟩⟩
  · rw [if_pos c] at e
    rw [← e]
  · rw [if_neg c, ← neg_0] at e
    rw [← e]
theorem e10_apart (l : Launch) (h : List ri_C) {n : Nat} (hn : n < 2 ^ 30) : ri_Ev l y10_apart w10_apart r10_apart 0 0 [.int (nI n)] h (ri_is (nI (n % 12)) h) := by
  refine ri_ev (t10_apart l _) rfl rfl rfl (Nat.le_of_ble_eq_true rfl) rfl (z10_apart l _) (fun J hJ => ?_)
  refine ri_run_ok hJ [] 90 0 0 0 _ _ _ ?_
  have hm : n % 12 < 12 := Nat.mod_lt _ (by decide)
  have e : nI n - nI n / 12 * 12 + 12 = nI (n % 12 + 12) := by
    rw [rem12 (by omega)]; exact nI_add (n % 12) 12
  refine ⟨by decide, by decide, ?_, rfl⟩
  show some (Value.int ((nI n - nI n / 12 * 12 + 12) - (nI n - nI n / 12 * 12 + 12) / 12 * 12)) = _
  rw [e, rem12 (by omega), show (n % 12 + 12) % 12 = n % 12 by omega]
theorem e10_most (l : Launch) (h : List ri_C) (x y : Int32) : ri_Ev l y10_most w10_most r10_most 0 0 [.int x, .int y] h (ri_is (if x ≤ y then y else x) h) := by
  refine ri_ev (t10_most l _) rfl rfl rfl (Nat.le_of_ble_eq_true rfl) rfl (z10_most l _) (fun J hJ => ?_)
  refine ri_run_ok hJ [] 90 0 0 0 _ _ _ ?_
  refine ⟨fun c => ⟨?_, rfl⟩, fun c => ⟨?_, rfl⟩⟩
  · rw [if_pos c]
  · rw [if_neg c]
theorem e10_lesser (l : Launch) (h : List ri_C) (x y : Int32) : ri_Ev l y10_lesser w10_lesser r10_lesser 0 0 [.int x, .int y] h (ri_is (if y ≤ x then y else x) h) := by
  refine ri_ev (t10_lesser l _) rfl rfl rfl (Nat.le_of_ble_eq_true rfl) rfl (z10_lesser l _) (fun J hJ => ?_)
  refine ri_run_ok hJ [] 90 0 0 0 _ _ _ ?_
  refine ⟨fun c => ⟨?_, rfl⟩, fun c => ⟨?_, rfl⟩⟩
  · rw [if_pos c]
  · rw [if_neg c]
def fnI (x : Int32) : Int32 := if x = 0 then 0 else (if x = 2 then 0 else (if ¬ x = 5 then (if x = 1 then 1 else (if x = 3 then 1 else (if ¬ x = 8 then (if x = 4 then 2 else (if x = 6 then 2 else (if ¬ x = 7 then 3 else 2))) else 1))) else 0))
theorem e10_function (l : Launch) (h : List ri_C) (x : Int32) : ri_Ev l y10_function w10_function r10_function 0 0 [.int x] h (ri_is (fnI x) h) := by
  refine ri_ev (t10_function l _) rfl rfl rfl (Nat.le_of_ble_eq_true rfl) rfl (z10_function l _) (fun J hJ => ?_)
  refine ri_run_ok hJ [] 200 0 0 0 _ _ _ ?_
  refine ⟨fun c0 => ?_, fun c0 => ?_⟩
  · replace c0 : x = 0 := c0
    exact ⟨by unfold fnI; rw [if_pos c0], rfl⟩
  · replace c0 : ¬ (x = 0) := c0
    refine ⟨fun c1 => ?_, fun c1 => ?_⟩
    · replace c1 : x = 2 := c1
      exact ⟨by unfold fnI; rw [if_neg c0, if_pos c1], rfl⟩
    · replace c1 : ¬ (x = 2) := c1
      refine ⟨fun c2 => ?_, fun c2 => ?_⟩
      · replace c2 : ¬ x = 5 := c2
        refine ⟨fun c3 => ?_, fun c3 => ?_⟩
        · replace c3 : x = 1 := c3
          exact ⟨by unfold fnI; rw [if_neg c0, if_neg c1, if_pos c2, if_pos c3], rfl⟩
        · replace c3 : ¬ (x = 1) := c3
          refine ⟨fun c4 => ?_, fun c4 => ?_⟩
          · replace c4 : x = 3 := c4
            exact ⟨by unfold fnI; rw [if_neg c0, if_neg c1, if_pos c2, if_neg c3, if_pos c4], rfl⟩
          · replace c4 : ¬ (x = 3) := c4
            refine ⟨fun c5 => ?_, fun c5 => ?_⟩
            · replace c5 : ¬ x = 8 := c5
              refine ⟨fun c6 => ?_, fun c6 => ?_⟩
              · replace c6 : x = 4 := c6
                exact ⟨by unfold fnI; rw [if_neg c0, if_neg c1, if_pos c2, if_neg c3, if_neg c4, if_pos c5, if_pos c6], rfl⟩
              · replace c6 : ¬ (x = 4) := c6
                refine ⟨fun c7 => ?_, fun c7 => ?_⟩
                · replace c7 : x = 6 := c7
                  exact ⟨by unfold fnI; rw [if_neg c0, if_neg c1, if_pos c2, if_neg c3, if_neg c4, if_pos c5, if_neg c6, if_pos c7], rfl⟩
                · replace c7 : ¬ (x = 6) := c7
                  refine ⟨fun c8 => ?_, fun c8 => ?_⟩
                  · replace c8 : ¬ x = 7 := c8
                    exact ⟨by unfold fnI; rw [if_neg c0, if_neg c1, if_pos c2, if_neg c3, if_neg c4, if_pos c5, if_neg c6, if_neg c7, if_pos c8], rfl⟩
                  · replace c8 : ¬ (¬ x = 7) := c8
                    exact ⟨by unfold fnI; rw [if_neg c0, if_neg c1, if_pos c2, if_neg c3, if_neg c4, if_pos c5, if_neg c6, if_neg c7, if_neg c8], rfl⟩
            · replace c5 : ¬ (¬ x = 8) := c5
              exact ⟨by unfold fnI; rw [if_neg c0, if_neg c1, if_pos c2, if_neg c3, if_neg c4, if_neg c5], rfl⟩
      · replace c2 : ¬ (¬ x = 5) := c2
        exact ⟨by unfold fnI; rw [if_neg c0, if_neg c1, if_neg c2], rfl⟩
def unI (x y : Int32) : Int32 := if ¬ x = y then (if fnI x = 0 then (if ¬ (fnI y) = 0 then 0 else 2) else (if fnI x = 1 then (if ¬ (fnI y) = 2 then (if ¬ (fnI y) = 1 then (if ¬ (fnI y) = 3 then (if ¬ x = 3 then 4 else (if ¬ y = 0 then 4 else 2)) else 1) else 2) else 0) else (if fnI x = 2 then (if ¬ (fnI y) = 0 then (if ¬ (fnI y) = 2 then (if ¬ (fnI y) = 1 then (if ¬ y = 12 then (-1) else 2) else (-1)) else (if ¬ x = 7 then 1 else 3)) else (if ¬ y = 0 then (if ¬ y = 5 then (-1) else 2) else 0)) else (if x = 9 then (if y = 4 then 0 else (if y = 7 then 0 else (if ¬ x = 11 then (if ¬ x = 12 then (if ¬ x = 9 then (-1) else (if ¬ y = 10 then (-1) else 1)) else (if ¬ y = 3 then (if ¬ x = 9 then (-1) else (if ¬ y = 10 then (-1) else 1)) else 0)) else (if y = 5 then 0 else (if ¬ x = 12 then (if ¬ x = 9 then (-1) else (if ¬ y = 10 then (-1) else 1)) else (if ¬ y = 3 then (if ¬ x = 9 then (-1) else (if ¬ y = 10 then (-1) else 1)) else 0)))))) else (if ¬ x = 10 then (if ¬ x = 11 then (if ¬ x = 12 then (if ¬ x = 9 then (-1) else (if ¬ y = 10 then (-1) else 1)) else (if ¬ y = 3 then (if ¬ x = 9 then (-1) else (if ¬ y = 10 then (-1) else 1)) else 0)) else (if y = 5 then 0 else (if ¬ x = 12 then (if ¬ x = 9 then (-1) else (if ¬ y = 10 then (-1) else 1)) else (if ¬ y = 3 then (if ¬ x = 9 then (-1) else (if ¬ y = 10 then (-1) else 1)) else 0)))) else (if y = 4 then 0 else (if y = 7 then 0 else (if ¬ x = 11 then (if ¬ x = 12 then (if ¬ x = 9 then (-1) else (if ¬ y = 10 then (-1) else 1)) else (if ¬ y = 3 then (if ¬ x = 9 then (-1) else (if ¬ y = 10 then (-1) else 1)) else 0)) else (if y = 5 then 0 else (if ¬ x = 12 then (if ¬ x = 9 then (-1) else (if ¬ y = 10 then (-1) else 1)) else (if ¬ y = 3 then (if ¬ x = 9 then (-1) else (if ¬ y = 10 then (-1) else 1)) else 0))))))))))) else 3
theorem e10_units (l : Launch) (h : List ri_C) (x y : Int32) : ri_Ev l y10_units w10_units r10_units 0 0 [.int x, .int y] h (ri_is (unI x y) h) := by
  refine ri_ev (t10_units l _) rfl rfl rfl (Nat.le_of_ble_eq_true rfl) rfl (z10_units l _) (fun J hJ => ?_)
  refine ri_run_ok hJ [] 200 0 0 0 _ _ _ ?_
  refine ⟨fun c0 => ?_, fun c0 => ?_⟩
  · replace c0 : ¬ x = y := c0
    refine ⟨_, e10_function l _ y, ?_⟩
    rintro r h' ⟨rfl, rfl⟩
    refine ⟨_, e10_function l _ x, ?_⟩
    rintro r h' ⟨rfl, rfl⟩
    refine ⟨fun c1 => ?_, fun c1 => ?_⟩
    · replace c1 : fnI x = 0 := c1
      refine ⟨fun c2 => ?_, fun c2 => ?_⟩
      · replace c2 : ¬ (fnI y) = 0 := c2
        exact ⟨by unfold unI; rw [if_pos c0, if_pos c1, if_pos c2], rfl⟩
      · replace c2 : ¬ (¬ (fnI y) = 0) := c2
        exact ⟨by unfold unI; rw [if_pos c0, if_pos c1, if_neg c2], rfl⟩
    · replace c1 : ¬ (fnI x = 0) := c1
      refine ⟨fun c3 => ?_, fun c3 => ?_⟩
      · replace c3 : fnI x = 1 := c3
        refine ⟨fun c4 => ?_, fun c4 => ?_⟩
        · replace c4 : ¬ (fnI y) = 2 := c4
          refine ⟨fun c5 => ?_, fun c5 => ?_⟩
          · replace c5 : ¬ (fnI y) = 1 := c5
            refine ⟨fun c6 => ?_, fun c6 => ?_⟩
            · replace c6 : ¬ (fnI y) = 3 := c6
              refine ⟨fun c7 => ?_, fun c7 => ?_⟩
              · replace c7 : ¬ x = 3 := c7
                exact ⟨by unfold unI; rw [if_pos c0, if_neg c1, if_pos c3, if_pos c4, if_pos c5, if_pos c6, if_pos c7], rfl⟩
              · replace c7 : ¬ (¬ x = 3) := c7
                refine ⟨fun c8 => ?_, fun c8 => ?_⟩
                · replace c8 : ¬ y = 0 := c8
                  exact ⟨by unfold unI; rw [if_pos c0, if_neg c1, if_pos c3, if_pos c4, if_pos c5, if_pos c6, if_neg c7, if_pos c8], rfl⟩
                · replace c8 : ¬ (¬ y = 0) := c8
                  exact ⟨by unfold unI; rw [if_pos c0, if_neg c1, if_pos c3, if_pos c4, if_pos c5, if_pos c6, if_neg c7, if_neg c8], rfl⟩
            · replace c6 : ¬ (¬ (fnI y) = 3) := c6
              exact ⟨by unfold unI; rw [if_pos c0, if_neg c1, if_pos c3, if_pos c4, if_pos c5, if_neg c6], rfl⟩
          · replace c5 : ¬ (¬ (fnI y) = 1) := c5
            exact ⟨by unfold unI; rw [if_pos c0, if_neg c1, if_pos c3, if_pos c4, if_neg c5], rfl⟩
        · replace c4 : ¬ (¬ (fnI y) = 2) := c4
          exact ⟨by unfold unI; rw [if_pos c0, if_neg c1, if_pos c3, if_neg c4], rfl⟩
      · replace c3 : ¬ (fnI x = 1) := c3
        refine ⟨fun c9 => ?_, fun c9 => ?_⟩
        · replace c9 : fnI x = 2 := c9
          refine ⟨fun c10 => ?_, fun c10 => ?_⟩
          · replace c10 : ¬ (fnI y) = 0 := c10
            refine ⟨fun c11 => ?_, fun c11 => ?_⟩
            · replace c11 : ¬ (fnI y) = 2 := c11
              refine ⟨fun c12 => ?_, fun c12 => ?_⟩
              · replace c12 : ¬ (fnI y) = 1 := c12
                refine ⟨fun c13 => ?_, fun c13 => ?_⟩
                · replace c13 : ¬ y = 12 := c13
                  exact ⟨by unfold unI; rw [if_pos c0, if_neg c1, if_neg c3, if_pos c9, if_pos c10, if_pos c11, if_pos c12, if_pos c13], rfl⟩
                · replace c13 : ¬ (¬ y = 12) := c13
                  exact ⟨by unfold unI; rw [if_pos c0, if_neg c1, if_neg c3, if_pos c9, if_pos c10, if_pos c11, if_pos c12, if_neg c13], rfl⟩
              · replace c12 : ¬ (¬ (fnI y) = 1) := c12
                exact ⟨by unfold unI; rw [if_pos c0, if_neg c1, if_neg c3, if_pos c9, if_pos c10, if_pos c11, if_neg c12], rfl⟩
            · replace c11 : ¬ (¬ (fnI y) = 2) := c11
              refine ⟨fun c14 => ?_, fun c14 => ?_⟩
              · replace c14 : ¬ x = 7 := c14
                exact ⟨by unfold unI; rw [if_pos c0, if_neg c1, if_neg c3, if_pos c9, if_pos c10, if_neg c11, if_pos c14], rfl⟩
              · replace c14 : ¬ (¬ x = 7) := c14
                exact ⟨by unfold unI; rw [if_pos c0, if_neg c1, if_neg c3, if_pos c9, if_pos c10, if_neg c11, if_neg c14], rfl⟩
          · replace c10 : ¬ (¬ (fnI y) = 0) := c10
            refine ⟨fun c15 => ?_, fun c15 => ?_⟩
            · replace c15 : ¬ y = 0 := c15
              refine ⟨fun c16 => ?_, fun c16 => ?_⟩
              · replace c16 : ¬ y = 5 := c16
                exact ⟨by unfold unI; rw [if_pos c0, if_neg c1, if_neg c3, if_pos c9, if_neg c10, if_pos c15, if_pos c16], rfl⟩
              · replace c16 : ¬ (¬ y = 5) := c16
                exact ⟨by unfold unI; rw [if_pos c0, if_neg c1, if_neg c3, if_pos c9, if_neg c10, if_pos c15, if_neg c16], rfl⟩
            · replace c15 : ¬ (¬ y = 0) := c15
              exact ⟨by unfold unI; rw [if_pos c0, if_neg c1, if_neg c3, if_pos c9, if_neg c10, if_neg c15], rfl⟩
        · replace c9 : ¬ (fnI x = 2) := c9
          refine ⟨fun c17 => ?_, fun c17 => ?_⟩
          · replace c17 : x = 9 := c17
            refine ⟨fun c18 => ?_, fun c18 => ?_⟩
            · replace c18 : y = 4 := c18
              refine ⟨fun c19 => absurd (show (1 : Int32) = 0 from c19) (by decide), fun _ => ?_⟩
              exact ⟨by unfold unI; rw [if_pos c0, if_neg c1, if_neg c3, if_neg c9, if_pos c17, if_pos c18], rfl⟩
            · replace c18 : ¬ (y = 4) := c18
              refine ⟨fun c20 => ?_, fun c20 => ?_⟩
              · replace c20 : y = 7 := c20
                refine ⟨fun c21 => absurd (show (1 : Int32) = 0 from c21) (by decide), fun _ => ?_⟩
                exact ⟨by unfold unI; rw [if_pos c0, if_neg c1, if_neg c3, if_neg c9, if_pos c17, if_neg c18, if_pos c20], rfl⟩
              · replace c20 : ¬ (y = 7) := c20
                refine ⟨fun c22 => ?_, fun c22 => ?_⟩
                · replace c22 : ¬ x = 11 := c22
                  refine ⟨fun c23 => ?_, fun c23 => ?_⟩
                  · replace c23 : ¬ x = 12 := c23
                    refine ⟨fun _ => ?_, fun c24 => absurd (show (0 : Int32) = 0 by decide) c24⟩
                    refine ⟨fun c25 => ?_, fun c25 => ?_⟩
                    · replace c25 : ¬ x = 9 := c25
                      exact ⟨by unfold unI; rw [if_pos c0, if_neg c1, if_neg c3, if_neg c9, if_pos c17, if_neg c18, if_neg c20, if_pos c22, if_pos c23, if_pos c25], rfl⟩
                    · replace c25 : ¬ (¬ x = 9) := c25
                      refine ⟨fun c26 => ?_, fun c26 => ?_⟩
                      · replace c26 : ¬ y = 10 := c26
                        exact ⟨by unfold unI; rw [if_pos c0, if_neg c1, if_neg c3, if_neg c9, if_pos c17, if_neg c18, if_neg c20, if_pos c22, if_pos c23, if_neg c25, if_pos c26], rfl⟩
                      · replace c26 : ¬ (¬ y = 10) := c26
                        exact ⟨by unfold unI; rw [if_pos c0, if_neg c1, if_neg c3, if_neg c9, if_pos c17, if_neg c18, if_neg c20, if_pos c22, if_pos c23, if_neg c25, if_neg c26], rfl⟩
                  · replace c23 : ¬ (¬ x = 12) := c23
                    refine ⟨fun c27 => ?_, fun c27 => ?_⟩
                    · replace c27 : ¬ y = 3 := c27
                      refine ⟨fun _ => ?_, fun c28 => absurd (show (0 : Int32) = 0 by decide) c28⟩
                      refine ⟨fun c29 => ?_, fun c29 => ?_⟩
                      · replace c29 : ¬ x = 9 := c29
                        exact ⟨by unfold unI; rw [if_pos c0, if_neg c1, if_neg c3, if_neg c9, if_pos c17, if_neg c18, if_neg c20, if_pos c22, if_neg c23, if_pos c27, if_pos c29], rfl⟩
                      · replace c29 : ¬ (¬ x = 9) := c29
                        refine ⟨fun c30 => ?_, fun c30 => ?_⟩
                        · replace c30 : ¬ y = 10 := c30
                          exact ⟨by unfold unI; rw [if_pos c0, if_neg c1, if_neg c3, if_neg c9, if_pos c17, if_neg c18, if_neg c20, if_pos c22, if_neg c23, if_pos c27, if_neg c29, if_pos c30], rfl⟩
                        · replace c30 : ¬ (¬ y = 10) := c30
                          exact ⟨by unfold unI; rw [if_pos c0, if_neg c1, if_neg c3, if_neg c9, if_pos c17, if_neg c18, if_neg c20, if_pos c22, if_neg c23, if_pos c27, if_neg c29, if_neg c30], rfl⟩
                    · replace c27 : ¬ (¬ y = 3) := c27
                      refine ⟨fun c31 => absurd (show (1 : Int32) = 0 from c31) (by decide), fun _ => ?_⟩
                      exact ⟨by unfold unI; rw [if_pos c0, if_neg c1, if_neg c3, if_neg c9, if_pos c17, if_neg c18, if_neg c20, if_pos c22, if_neg c23, if_neg c27], rfl⟩
                · replace c22 : ¬ (¬ x = 11) := c22
                  refine ⟨fun c32 => ?_, fun c32 => ?_⟩
                  · replace c32 : y = 5 := c32
                    refine ⟨fun c33 => absurd (show (1 : Int32) = 0 from c33) (by decide), fun _ => ?_⟩
                    exact ⟨by unfold unI; rw [if_pos c0, if_neg c1, if_neg c3, if_neg c9, if_pos c17, if_neg c18, if_neg c20, if_neg c22, if_pos c32], rfl⟩
                  · replace c32 : ¬ (y = 5) := c32
                    refine ⟨fun c34 => ?_, fun c34 => ?_⟩
                    · replace c34 : ¬ x = 12 := c34
                      refine ⟨fun _ => ?_, fun c35 => absurd (show (0 : Int32) = 0 by decide) c35⟩
                      refine ⟨fun c36 => ?_, fun c36 => ?_⟩
                      · replace c36 : ¬ x = 9 := c36
                        exact ⟨by unfold unI; rw [if_pos c0, if_neg c1, if_neg c3, if_neg c9, if_pos c17, if_neg c18, if_neg c20, if_neg c22, if_neg c32, if_pos c34, if_pos c36], rfl⟩
                      · replace c36 : ¬ (¬ x = 9) := c36
                        refine ⟨fun c37 => ?_, fun c37 => ?_⟩
                        · replace c37 : ¬ y = 10 := c37
                          exact ⟨by unfold unI; rw [if_pos c0, if_neg c1, if_neg c3, if_neg c9, if_pos c17, if_neg c18, if_neg c20, if_neg c22, if_neg c32, if_pos c34, if_neg c36, if_pos c37], rfl⟩
                        · replace c37 : ¬ (¬ y = 10) := c37
                          exact ⟨by unfold unI; rw [if_pos c0, if_neg c1, if_neg c3, if_neg c9, if_pos c17, if_neg c18, if_neg c20, if_neg c22, if_neg c32, if_pos c34, if_neg c36, if_neg c37], rfl⟩
                    · replace c34 : ¬ (¬ x = 12) := c34
                      refine ⟨fun c38 => ?_, fun c38 => ?_⟩
                      · replace c38 : ¬ y = 3 := c38
                        refine ⟨fun _ => ?_, fun c39 => absurd (show (0 : Int32) = 0 by decide) c39⟩
                        refine ⟨fun c40 => ?_, fun c40 => ?_⟩
                        · replace c40 : ¬ x = 9 := c40
                          exact ⟨by unfold unI; rw [if_pos c0, if_neg c1, if_neg c3, if_neg c9, if_pos c17, if_neg c18, if_neg c20, if_neg c22, if_neg c32, if_neg c34, if_pos c38, if_pos c40], rfl⟩
                        · replace c40 : ¬ (¬ x = 9) := c40
                          refine ⟨fun c41 => ?_, fun c41 => ?_⟩
                          · replace c41 : ¬ y = 10 := c41
                            exact ⟨by unfold unI; rw [if_pos c0, if_neg c1, if_neg c3, if_neg c9, if_pos c17, if_neg c18, if_neg c20, if_neg c22, if_neg c32, if_neg c34, if_pos c38, if_neg c40, if_pos c41], rfl⟩
                          · replace c41 : ¬ (¬ y = 10) := c41
                            exact ⟨by unfold unI; rw [if_pos c0, if_neg c1, if_neg c3, if_neg c9, if_pos c17, if_neg c18, if_neg c20, if_neg c22, if_neg c32, if_neg c34, if_pos c38, if_neg c40, if_neg c41], rfl⟩
                      · replace c38 : ¬ (¬ y = 3) := c38
                        refine ⟨fun c42 => absurd (show (1 : Int32) = 0 from c42) (by decide), fun _ => ?_⟩
                        exact ⟨by unfold unI; rw [if_pos c0, if_neg c1, if_neg c3, if_neg c9, if_pos c17, if_neg c18, if_neg c20, if_neg c22, if_neg c32, if_neg c34, if_neg c38], rfl⟩
          · replace c17 : ¬ (x = 9) := c17
            refine ⟨fun c43 => ?_, fun c43 => ?_⟩
            · replace c43 : ¬ x = 10 := c43
              refine ⟨fun c44 => ?_, fun c44 => ?_⟩
              · replace c44 : ¬ x = 11 := c44
                refine ⟨fun c45 => ?_, fun c45 => ?_⟩
                · replace c45 : ¬ x = 12 := c45
                  refine ⟨fun _ => ?_, fun c46 => absurd (show (0 : Int32) = 0 by decide) c46⟩
                  refine ⟨fun c47 => ?_, fun c47 => ?_⟩
                  · replace c47 : ¬ x = 9 := c47
                    exact ⟨by unfold unI; rw [if_pos c0, if_neg c1, if_neg c3, if_neg c9, if_neg c17, if_pos c43, if_pos c44, if_pos c45, if_pos c47], rfl⟩
                  · replace c47 : ¬ (¬ x = 9) := c47
                    refine ⟨fun c48 => ?_, fun c48 => ?_⟩
                    · replace c48 : ¬ y = 10 := c48
                      exact ⟨by unfold unI; rw [if_pos c0, if_neg c1, if_neg c3, if_neg c9, if_neg c17, if_pos c43, if_pos c44, if_pos c45, if_neg c47, if_pos c48], rfl⟩
                    · replace c48 : ¬ (¬ y = 10) := c48
                      exact ⟨by unfold unI; rw [if_pos c0, if_neg c1, if_neg c3, if_neg c9, if_neg c17, if_pos c43, if_pos c44, if_pos c45, if_neg c47, if_neg c48], rfl⟩
                · replace c45 : ¬ (¬ x = 12) := c45
                  refine ⟨fun c49 => ?_, fun c49 => ?_⟩
                  · replace c49 : ¬ y = 3 := c49
                    refine ⟨fun _ => ?_, fun c50 => absurd (show (0 : Int32) = 0 by decide) c50⟩
                    refine ⟨fun c51 => ?_, fun c51 => ?_⟩
                    · replace c51 : ¬ x = 9 := c51
                      exact ⟨by unfold unI; rw [if_pos c0, if_neg c1, if_neg c3, if_neg c9, if_neg c17, if_pos c43, if_pos c44, if_neg c45, if_pos c49, if_pos c51], rfl⟩
                    · replace c51 : ¬ (¬ x = 9) := c51
                      refine ⟨fun c52 => ?_, fun c52 => ?_⟩
                      · replace c52 : ¬ y = 10 := c52
                        exact ⟨by unfold unI; rw [if_pos c0, if_neg c1, if_neg c3, if_neg c9, if_neg c17, if_pos c43, if_pos c44, if_neg c45, if_pos c49, if_neg c51, if_pos c52], rfl⟩
                      · replace c52 : ¬ (¬ y = 10) := c52
                        exact ⟨by unfold unI; rw [if_pos c0, if_neg c1, if_neg c3, if_neg c9, if_neg c17, if_pos c43, if_pos c44, if_neg c45, if_pos c49, if_neg c51, if_neg c52], rfl⟩
                  · replace c49 : ¬ (¬ y = 3) := c49
                    refine ⟨fun c53 => absurd (show (1 : Int32) = 0 from c53) (by decide), fun _ => ?_⟩
                    exact ⟨by unfold unI; rw [if_pos c0, if_neg c1, if_neg c3, if_neg c9, if_neg c17, if_pos c43, if_pos c44, if_neg c45, if_neg c49], rfl⟩
              · replace c44 : ¬ (¬ x = 11) := c44
                refine ⟨fun c54 => ?_, fun c54 => ?_⟩
                · replace c54 : y = 5 := c54
                  refine ⟨fun c55 => absurd (show (1 : Int32) = 0 from c55) (by decide), fun _ => ?_⟩
                  exact ⟨by unfold unI; rw [if_pos c0, if_neg c1, if_neg c3, if_neg c9, if_neg c17, if_pos c43, if_neg c44, if_pos c54], rfl⟩
                · replace c54 : ¬ (y = 5) := c54
                  refine ⟨fun c56 => ?_, fun c56 => ?_⟩
                  · replace c56 : ¬ x = 12 := c56
                    refine ⟨fun _ => ?_, fun c57 => absurd (show (0 : Int32) = 0 by decide) c57⟩
                    refine ⟨fun c58 => ?_, fun c58 => ?_⟩
                    · replace c58 : ¬ x = 9 := c58
                      exact ⟨by unfold unI; rw [if_pos c0, if_neg c1, if_neg c3, if_neg c9, if_neg c17, if_pos c43, if_neg c44, if_neg c54, if_pos c56, if_pos c58], rfl⟩
                    · replace c58 : ¬ (¬ x = 9) := c58
                      refine ⟨fun c59 => ?_, fun c59 => ?_⟩
                      · replace c59 : ¬ y = 10 := c59
                        exact ⟨by unfold unI; rw [if_pos c0, if_neg c1, if_neg c3, if_neg c9, if_neg c17, if_pos c43, if_neg c44, if_neg c54, if_pos c56, if_neg c58, if_pos c59], rfl⟩
                      · replace c59 : ¬ (¬ y = 10) := c59
                        exact ⟨by unfold unI; rw [if_pos c0, if_neg c1, if_neg c3, if_neg c9, if_neg c17, if_pos c43, if_neg c44, if_neg c54, if_pos c56, if_neg c58, if_neg c59], rfl⟩
                  · replace c56 : ¬ (¬ x = 12) := c56
                    refine ⟨fun c60 => ?_, fun c60 => ?_⟩
                    · replace c60 : ¬ y = 3 := c60
                      refine ⟨fun _ => ?_, fun c61 => absurd (show (0 : Int32) = 0 by decide) c61⟩
                      refine ⟨fun c62 => ?_, fun c62 => ?_⟩
                      · replace c62 : ¬ x = 9 := c62
                        exact ⟨by unfold unI; rw [if_pos c0, if_neg c1, if_neg c3, if_neg c9, if_neg c17, if_pos c43, if_neg c44, if_neg c54, if_neg c56, if_pos c60, if_pos c62], rfl⟩
                      · replace c62 : ¬ (¬ x = 9) := c62
                        refine ⟨fun c63 => ?_, fun c63 => ?_⟩
                        · replace c63 : ¬ y = 10 := c63
                          exact ⟨by unfold unI; rw [if_pos c0, if_neg c1, if_neg c3, if_neg c9, if_neg c17, if_pos c43, if_neg c44, if_neg c54, if_neg c56, if_pos c60, if_neg c62, if_pos c63], rfl⟩
                        · replace c63 : ¬ (¬ y = 10) := c63
                          exact ⟨by unfold unI; rw [if_pos c0, if_neg c1, if_neg c3, if_neg c9, if_neg c17, if_pos c43, if_neg c44, if_neg c54, if_neg c56, if_pos c60, if_neg c62, if_neg c63], rfl⟩
                    · replace c60 : ¬ (¬ y = 3) := c60
                      refine ⟨fun c64 => absurd (show (1 : Int32) = 0 from c64) (by decide), fun _ => ?_⟩
                      exact ⟨by unfold unI; rw [if_pos c0, if_neg c1, if_neg c3, if_neg c9, if_neg c17, if_pos c43, if_neg c44, if_neg c54, if_neg c56, if_neg c60], rfl⟩
            · replace c43 : ¬ (¬ x = 10) := c43
              refine ⟨fun c65 => ?_, fun c65 => ?_⟩
              · replace c65 : y = 4 := c65
                refine ⟨fun c66 => absurd (show (1 : Int32) = 0 from c66) (by decide), fun _ => ?_⟩
                exact ⟨by unfold unI; rw [if_pos c0, if_neg c1, if_neg c3, if_neg c9, if_neg c17, if_neg c43, if_pos c65], rfl⟩
              · replace c65 : ¬ (y = 4) := c65
                refine ⟨fun c67 => ?_, fun c67 => ?_⟩
                · replace c67 : y = 7 := c67
                  refine ⟨fun c68 => absurd (show (1 : Int32) = 0 from c68) (by decide), fun _ => ?_⟩
                  exact ⟨by unfold unI; rw [if_pos c0, if_neg c1, if_neg c3, if_neg c9, if_neg c17, if_neg c43, if_neg c65, if_pos c67], rfl⟩
                · replace c67 : ¬ (y = 7) := c67
                  refine ⟨fun c69 => ?_, fun c69 => ?_⟩
                  · replace c69 : ¬ x = 11 := c69
                    refine ⟨fun c70 => ?_, fun c70 => ?_⟩
                    · replace c70 : ¬ x = 12 := c70
                      refine ⟨fun _ => ?_, fun c71 => absurd (show (0 : Int32) = 0 by decide) c71⟩
                      refine ⟨fun c72 => ?_, fun c72 => ?_⟩
                      · replace c72 : ¬ x = 9 := c72
                        exact ⟨by unfold unI; rw [if_pos c0, if_neg c1, if_neg c3, if_neg c9, if_neg c17, if_neg c43, if_neg c65, if_neg c67, if_pos c69, if_pos c70, if_pos c72], rfl⟩
                      · replace c72 : ¬ (¬ x = 9) := c72
                        refine ⟨fun c73 => ?_, fun c73 => ?_⟩
                        · replace c73 : ¬ y = 10 := c73
                          exact ⟨by unfold unI; rw [if_pos c0, if_neg c1, if_neg c3, if_neg c9, if_neg c17, if_neg c43, if_neg c65, if_neg c67, if_pos c69, if_pos c70, if_neg c72, if_pos c73], rfl⟩
                        · replace c73 : ¬ (¬ y = 10) := c73
                          exact ⟨by unfold unI; rw [if_pos c0, if_neg c1, if_neg c3, if_neg c9, if_neg c17, if_neg c43, if_neg c65, if_neg c67, if_pos c69, if_pos c70, if_neg c72, if_neg c73], rfl⟩
                    · replace c70 : ¬ (¬ x = 12) := c70
                      refine ⟨fun c74 => ?_, fun c74 => ?_⟩
                      · replace c74 : ¬ y = 3 := c74
                        refine ⟨fun _ => ?_, fun c75 => absurd (show (0 : Int32) = 0 by decide) c75⟩
                        refine ⟨fun c76 => ?_, fun c76 => ?_⟩
                        · replace c76 : ¬ x = 9 := c76
                          exact ⟨by unfold unI; rw [if_pos c0, if_neg c1, if_neg c3, if_neg c9, if_neg c17, if_neg c43, if_neg c65, if_neg c67, if_pos c69, if_neg c70, if_pos c74, if_pos c76], rfl⟩
                        · replace c76 : ¬ (¬ x = 9) := c76
                          refine ⟨fun c77 => ?_, fun c77 => ?_⟩
                          · replace c77 : ¬ y = 10 := c77
                            exact ⟨by unfold unI; rw [if_pos c0, if_neg c1, if_neg c3, if_neg c9, if_neg c17, if_neg c43, if_neg c65, if_neg c67, if_pos c69, if_neg c70, if_pos c74, if_neg c76, if_pos c77], rfl⟩
                          · replace c77 : ¬ (¬ y = 10) := c77
                            exact ⟨by unfold unI; rw [if_pos c0, if_neg c1, if_neg c3, if_neg c9, if_neg c17, if_neg c43, if_neg c65, if_neg c67, if_pos c69, if_neg c70, if_pos c74, if_neg c76, if_neg c77], rfl⟩
                      · replace c74 : ¬ (¬ y = 3) := c74
                        refine ⟨fun c78 => absurd (show (1 : Int32) = 0 from c78) (by decide), fun _ => ?_⟩
                        exact ⟨by unfold unI; rw [if_pos c0, if_neg c1, if_neg c3, if_neg c9, if_neg c17, if_neg c43, if_neg c65, if_neg c67, if_pos c69, if_neg c70, if_neg c74], rfl⟩
                  · replace c69 : ¬ (¬ x = 11) := c69
                    refine ⟨fun c79 => ?_, fun c79 => ?_⟩
                    · replace c79 : y = 5 := c79
                      refine ⟨fun c80 => absurd (show (1 : Int32) = 0 from c80) (by decide), fun _ => ?_⟩
                      exact ⟨by unfold unI; rw [if_pos c0, if_neg c1, if_neg c3, if_neg c9, if_neg c17, if_neg c43, if_neg c65, if_neg c67, if_neg c69, if_pos c79], rfl⟩
                    · replace c79 : ¬ (y = 5) := c79
                      refine ⟨fun c81 => ?_, fun c81 => ?_⟩
                      · replace c81 : ¬ x = 12 := c81
                        refine ⟨fun _ => ?_, fun c82 => absurd (show (0 : Int32) = 0 by decide) c82⟩
                        refine ⟨fun c83 => ?_, fun c83 => ?_⟩
                        · replace c83 : ¬ x = 9 := c83
                          exact ⟨by unfold unI; rw [if_pos c0, if_neg c1, if_neg c3, if_neg c9, if_neg c17, if_neg c43, if_neg c65, if_neg c67, if_neg c69, if_neg c79, if_pos c81, if_pos c83], rfl⟩
                        · replace c83 : ¬ (¬ x = 9) := c83
                          refine ⟨fun c84 => ?_, fun c84 => ?_⟩
                          · replace c84 : ¬ y = 10 := c84
                            exact ⟨by unfold unI; rw [if_pos c0, if_neg c1, if_neg c3, if_neg c9, if_neg c17, if_neg c43, if_neg c65, if_neg c67, if_neg c69, if_neg c79, if_pos c81, if_neg c83, if_pos c84], rfl⟩
                          · replace c84 : ¬ (¬ y = 10) := c84
                            exact ⟨by unfold unI; rw [if_pos c0, if_neg c1, if_neg c3, if_neg c9, if_neg c17, if_neg c43, if_neg c65, if_neg c67, if_neg c69, if_neg c79, if_pos c81, if_neg c83, if_neg c84], rfl⟩
                      · replace c81 : ¬ (¬ x = 12) := c81
                        refine ⟨fun c85 => ?_, fun c85 => ?_⟩
                        · replace c85 : ¬ y = 3 := c85
                          refine ⟨fun _ => ?_, fun c86 => absurd (show (0 : Int32) = 0 by decide) c86⟩
                          refine ⟨fun c87 => ?_, fun c87 => ?_⟩
                          · replace c87 : ¬ x = 9 := c87
                            exact ⟨by unfold unI; rw [if_pos c0, if_neg c1, if_neg c3, if_neg c9, if_neg c17, if_neg c43, if_neg c65, if_neg c67, if_neg c69, if_neg c79, if_neg c81, if_pos c85, if_pos c87], rfl⟩
                          · replace c87 : ¬ (¬ x = 9) := c87
                            refine ⟨fun c88 => ?_, fun c88 => ?_⟩
                            · replace c88 : ¬ y = 10 := c88
                              exact ⟨by unfold unI; rw [if_pos c0, if_neg c1, if_neg c3, if_neg c9, if_neg c17, if_neg c43, if_neg c65, if_neg c67, if_neg c69, if_neg c79, if_neg c81, if_pos c85, if_neg c87, if_pos c88], rfl⟩
                            · replace c88 : ¬ (¬ y = 10) := c88
                              exact ⟨by unfold unI; rw [if_pos c0, if_neg c1, if_neg c3, if_neg c9, if_neg c17, if_neg c43, if_neg c65, if_neg c67, if_neg c69, if_neg c79, if_neg c81, if_pos c85, if_neg c87, if_neg c88], rfl⟩
                        · replace c85 : ¬ (¬ y = 3) := c85
                          refine ⟨fun c89 => absurd (show (1 : Int32) = 0 from c89) (by decide), fun _ => ?_⟩
                          exact ⟨by unfold unI; rw [if_pos c0, if_neg c1, if_neg c3, if_neg c9, if_neg c17, if_neg c43, if_neg c65, if_neg c67, if_neg c69, if_neg c79, if_neg c81, if_neg c85], rfl⟩
  · replace c0 : ¬ (¬ x = y) := c0
    exact ⟨by unfold unI; rw [if_neg c0], rfl⟩
theorem unI_n : ∀ a, a < 13 → ∀ b, b < 13 → unI (nI a) (nI b) = nU (unt a b) := by decide +kernel
theorem e10_unitsN (l : Launch) (h : List ri_C) {a b : Nat} (ha : a < 13) (hb : b < 13) : ri_Ev l y10_units w10_units r10_units 0 0 [.int (nI a), .int (nI b)] h (ri_is (nU (unt a b)) h) := by
  rw [← unI_n a ha b hb]
  exact e10_units l h (nI a) (nI b)
theorem gvn_64 {T : tT} (hW : TW T) : ∀ n, n + 4 * T 8 2 ≤ 64 → dcn (gvn T) (4 * T 8 2 + n) = dcn (gvn T) (4 * T 8 2)
  | 0, _ => rfl
  | n + 1, h => by
    have e : gvn T (4 * T 8 2 + n) = false := by
      have := (hW.2.2.2.2.2.2.2.2 ((4 * T 8 2 + n) / 4) (by omega) (by omega)).1 ((4 * T 8 2 + n) % 4) (by omega)
      rw [show 4 * ((4 * T 8 2 + n) / 4) + (4 * T 8 2 + n) % 4 = 4 * T 8 2 + n by omega] at this
      unfold gvn
      rw [eq_b this]; rfl
    rw [← Nat.add_assoc, dcn_0 e]
    exact gvn_64 hW n (by omega)
set_option maxHeartbeats 1000000 in
theorem e10_count (l : Launch) (z : st_T) (T : tT) (Q : tQ) (hW : TW T) (hI : MI z T Q) (w : Int32) : ri_Ev l y10_count w10_count r10_count 0 0 [.ref 117, .int w] (st_h z) (MO z (sp_count T Q w)) := by
  obtain ⟨hM, hQ⟩ := id hI
  have hM0 := (MI_0 hI).1
  have hn := hW.1
  refine ri_ev (t10_count l _) rfl rfl rfl (Nat.le_of_ble_eq_true rfl) rfl (z10_count l _) (fun J hJ => ?_)
  have e4 : 4 * (m0 z).1 101 7 = nI (4 * T 8 2) := by
    rw [hM0.1.2.2]
    show nI 4 * nI (T 8 2) = _
    rw [pk_mul]
  have loop3 : ¬ w = 0 → ¬ w = 1 → ¬ w = 2 → w = 3 → ∀ n j, n + j = 4 * T 8 2 → J 22 0 0 [some (.ref 117), some (.int w), some (.int (nI (dcn (gvn T) j))), some (.int (nI j))] [] (st_h (m0 z)) := by
    intro c0 c1 c2 c3 n
    induction n with
    | zero =>
      intro j hj
      refine ri_go hJ [] 90 22 rfl ?_
      refine ⟨fun _ => MO_same hI ?_, fun c => absurd (show 4 * (m0 z).1 101 7 ≤ nI j from ?_) c⟩
      · unfold sp_count
        rw [if_neg c0, if_neg c1, if_neg c2, if_pos c3]
        have := gvn_64 hW (64 - 4 * T 8 2) (by omega)
        rw [show 4 * T 8 2 + (64 - 4 * T 8 2) = 64 by omega] at this
        rw [this, show j = 4 * T 8 2 by omega]
      · rw [e4]; exact nI_le (by omega) (by omega)
    | succ n ih =>
      intro j hj
      have e1 := nI_1 j
      have ez : (m0 z).2.1 106 (nI j).toNatClampNeg = nC (T 0 j) := by rw [cl31 (by omega)]; exact hM0.2.1 j (by omega)
      have ht := hW.2.2.2.1 j (by omega)
      refine ri_go hJ [22] 90 22 rfl ?_
      refine ⟨fun c => absurd (show 4 * (m0 z).1 101 7 ≤ nI j from c) ?_, fun _ => ⟨vp_in_nI (by omega) (by decide), fun c => ?_, fun c => ?_⟩⟩
      · rw [e4]; exact nI_ge (by omega) (by omega)
      · have c : (m0 z).2.1 106 (nI j).toNatClampNeg = -2 := c
        rw [ez, nC_none (by omega)] at c
        have := ih (j + 1) (by omega)
        rw [dcn_0 (show gvn T j = false by unfold gvn; rw [eq_b c]; rfl), ← e1, show nI (dcn (gvn T) j) = nI (dcn (gvn T) j) + 0 from (nI_add _ 0).symm] at this
        exact this
      · have c : ¬ (m0 z).2.1 106 (nI j).toNatClampNeg = -2 := c
        rw [ez, nC_none (by omega)] at c
        have := ih (j + 1) (by omega)
        rw [dcn_1 (show gvn T j = true by unfold gvn; rw [ne_b c]; rfl), ← e1, ← nI_1] at this
        exact this
  have loop5 : ¬ w = 0 → ¬ w = 1 → ¬ w = 2 → ¬ w = 3 → ¬ w = 4 → w = 5 → ∀ n j, n + j = 13 → J 49 0 0 [some (.ref 117), some (.int w), some (.int (nI (dcn (sty T) j))), some (.int (nI j))] [] (st_h (m0 z)) := by
    intro c0 c1 c2 c3 c4 c5 n
    induction n with
    | zero =>
      intro j hj
      have hj13 : j = 13 := by omega
      subst hj13
      refine ri_go hJ [] 90 49 rfl ?_
      refine ⟨fun _ => MO_same hI ?_, fun c => absurd (by decide) c⟩
      unfold sp_count
      rw [if_neg c0, if_neg c1, if_neg c2, if_neg c3, if_neg c4, if_pos c5]
    | succ n ih =>
      intro j hj
      have e1 := nI_1 j
      have ez : (m0 z).2.1 110 (nI j).toNatClampNeg = nI (T 4 j) := by rw [cl31 (by omega)]; exact hM0.2.2.2.1 j (by omega)
      have ht := hW.2.2.2.2.2.1 j (by omega)
      refine ri_go hJ [49] 90 49 rfl ?_
      refine ⟨fun c => absurd c (nI_ge (a := j) (b := 13) (by omega) (by decide)), fun _ => ⟨vp_in_nI (by omega) (by decide), fun c => ?_, fun c => ?_⟩⟩
      · have c : (m0 z).2.1 110 (nI j).toNatClampNeg = 0 := c
        rw [ez, nk_eq (k := 0) (b := 0) rfl (by omega) (by decide)] at c
        have := ih (j + 1) (by omega)
        rw [dcn_0 (show sty T j = false by unfold sty; rw [c]; rfl), ← e1, show nI (dcn (sty T) j) = nI (dcn (sty T) j) + 0 from (nI_add _ 0).symm] at this
        exact this
      · have c : ¬ (m0 z).2.1 110 (nI j).toNatClampNeg = 0 := c
        rw [ez, nk_eq (k := 0) (b := 0) rfl (by omega) (by decide)] at c
        have := ih (j + 1) (by omega)
        rw [dcn_1 (show sty T j = true by unfold sty; rw [show T 4 j = 1 by omega]; rfl), ← e1, ← nI_1] at this
        exact this
  refine ri_run_ok hJ [22, 49] 90 0 0 0 _ _ _ ?_
  refine ⟨fun c => MO_same (v := (m0 z).1 101 5) hI ?_, fun c0 => ⟨fun c => ⟨fun q => MO_same hI ?_, fun q => MO_same hI ?_⟩, fun c1 => ⟨fun c => MO_same (v := (m0 z).1 101 7) hI ?_, fun c2 => ⟨fun c => loop3 c0 c1 c2 c (4 * T 8 2) 0 rfl, fun c3 => ⟨fun c => MO_same (v := (m0 z).1 101 26) hI ?_, fun c4 => ⟨fun c => loop5 c0 c1 c2 c3 c4 c 13 0 rfl, fun c5 => MO_same hI ?_⟩⟩⟩⟩⟩⟩
  · unfold sp_count
    rw [if_pos c, hM0.1.1]
  · have q : (m0 z).1 101 6 = 0 := q
    have h1 := hW.2.2.1
    rw [hM0.1.2.1, nk_eq (k := 0) (b := 0) rfl (by omega) (by decide)] at q
    unfold sp_count
    rw [if_neg c0, if_pos c, q]; rfl
  · have q : ¬ (m0 z).1 101 6 = 0 := q
    have h1 := hW.2.2.1
    rw [hM0.1.2.1, nk_eq (k := 0) (b := 0) rfl (by omega) (by decide)] at q
    unfold sp_count
    rw [if_neg c0, if_pos c, show T 8 1 = 1 by omega]; rfl
  · unfold sp_count
    rw [if_neg c0, if_neg c1, if_pos c, hM0.1.2.2]
  · unfold sp_count
    rw [if_neg c0, if_neg c1, if_neg c2, if_neg c3, if_pos c, (MI_0 hI).2.1]
  · unfold sp_count
    rw [if_neg c0, if_neg c1, if_neg c2, if_neg c3, if_neg c4, if_neg c5]
theorem inS_m {T : tT} (hW : TW T) {p : Nat} (hp : 12 ≤ p) : inS T p = ((if T 8 1 = 1 then sN else sJ).getD (dgo T p) 0 == 1) := by
  have h0 := hW.2.1
  unfold inS dgo
  rw [show (p + 120 - T 8 0) % 12 = (p + 12 - T 8 0) % 12 by omega]; rfl
set_option maxHeartbeats 1000000 in
theorem e10_passing (l : Launch) (z : st_T) (T : tT) (Q : tQ) (hW : TW T) (hq : QW T Q) (hI : MI z T Q) (i v : Int32) : ri_Ev l y10_passing w10_passing r10_passing 0 0 [.ref 117, .int i, .int v] (st_h z) (MO z (sp_passing T Q i v)) := by
  obtain ⟨hM, hQ⟩ := id hI
  have hM0 := (MI_0 hI).1
  refine ri_ev (t10_passing l _) rfl rfl rfl (Nat.le_of_ble_eq_true rfl) rfl (z10_passing l _) (fun J hJ => ?_)
  have bad : (okR Q 0 && (bt 0 i (nI (T 8 2) - 2) && bt 0 v 3)) = false → MO z (sp_passing T Q i v) (some (.int (-1))) (st_h (m0 z)) := fun h => MO_same hI (by unfold sp_passing; rw [h]; rfl)
  have hn := hW.1
  have h4 := hq.1
  have e2 : (nI (T 8 2) - 2).toInt = (T 8 2 : Int) - 2 := by
    have : ∀ n, n < 17 → (nI n - 2).toInt = (n : Int) - 2 := by decide
    exact this _ (by omega)
  have er : okR Q 0 = decide (0 < Q.1.length) := by
    by_cases q : 0 < Q.1.length
    · rw [decide_eq_true q]
      exact (bt_ix (x := 0) (n := Q.1.length) (by omega)).2.2 (by decide) (by rw [show (0 : Int32) = nI 0 from rfl, nn_le (by omega) (by decide)]; omega)
    · rw [decide_eq_false q]
      exact (bt_ix (x := 0) (n := Q.1.length) (by omega)).2.1 (by rw [show (0 : Int32) = nI 0 from rfl, nn_le (by omega) (by decide)]; omega)
  refine ri_run_ok hJ [44] 90 0 0 0 _ _ _ ?_
  refine ⟨fun c => bad ?_, fun c1 => ?_⟩
  · have c : (m0 z).1 101 26 = 0 := c
    rw [(MI_0 hI).2.1, nk_eq (k := 0) (b := 0) rfl (by omega) (by decide)] at c
    rw [er, decide_eq_false (by omega)]; rfl
  have c1 : ¬ (m0 z).1 101 26 = 0 := c1
  rw [(MI_0 hI).2.1, nk_eq (k := 0) (b := 0) rfl (by omega) (by decide)] at c1
  have b1 : okR Q 0 = true := by rw [er]; exact decide_eq_true (by omega)
  refine ⟨_, e10_inI l (st_h (m0 z)) i 0 ((m0 z).1 101 7 - 2) rfl rfl, ?_⟩
  rintro r h' ⟨rfl, rfl⟩
  rw [show bt 0 i ((m0 z).1 101 7 - 2) = bt 0 i (nI (T 8 2) - 2) by rw [hM0.1.2.2]]
  refine ⟨fun c => bad (by rw [zb_0.mp c, Bool.false_and, Bool.and_false]), fun c2 => ?_⟩
  have b2 := zb_1.mp c2
  refine ⟨_, e10_inI l (st_h (m0 z)) v 0 3 rfl rfl, ?_⟩
  rintro r h' ⟨rfl, rfl⟩
  refine ⟨fun c3 => ?_, fun c => bad (by rw [zb_0.mp (Decidable.not_not.mp c), Bool.and_false, Bool.and_false])⟩
  have b3 := zb_1.mp c3
  have k1 : 0 < Q.1.length := by omega
  obtain ⟨v1, v2⟩ := nt_le (m := 3) (by decide) b3
  have c0 : ¬ i < 0 := by
    have := (bt_iff.mp b2).1
    rw [i_ltI]; omega
  obtain ⟨i0, i2⟩ := nt_of c0
  have i1 : nt i + 1 < T 8 2 := by
    have := (bt_iff.mp b2).2
    rw [← i2, nI_toInt i0, e2] at this
    omega
  have q0 := Q_at (Q := Q) k1
  have d0 : z.2.1 124 (64 * 0 + (4 * nt i + nt v)) = nI (pit (rwq Q 0 (nt i)) (nt v)) := ((hQ.2.2 _ _ q0).2 _ (by omega)).1 _ (by omega)
  have d1 : z.2.1 124 (64 * 0 + (4 * (nt i + 1) + nt v)) = nI (pit (rwq Q 0 (nt i + 1)) (nt v)) := ((hQ.2.2 _ _ q0).2 _ i1).1 _ (by omega)
  have x0 := ix4c i2 v2
  have x1 : 4 * i + 4 + v = nI (4 * (nt i + 1) + nt v) := by
    have h : nI 4 * nI (nt i) + nI 4 + nI (nt v) = nI (4 * (nt i + 1) + nt v) := by rw [pk_mul, nI_add, nI_add, Nat.mul_add]
    rw [i2, v2] at h; exact h
  have ea : z.2.1 124 (4 * i + v).toNatClampNeg = nI (pit (rwq Q 0 (nt i)) (nt v)) := by rw [x0, cl31 (by omega), ← d0, Nat.mul_zero, Nat.zero_add]
  have eb : z.2.1 124 (4 * i + 4 + v).toNatClampNeg = nI (pit (rwq Q 0 (nt i + 1)) (nt v)) := by rw [x1, cl31 (by omega), ← d1, Nat.mul_zero, Nat.zero_add]
  have ha := pit_lt (rwq Q 0 (nt i)) (nt v)
  have hb := pit_lt (rwq Q 0 (nt i + 1)) (nt v)
  have es : sp_passing T Q i v = (psA T (pit (rwq Q 0 (nt i)) (nt v)) (pit (rwq Q 0 (nt i + 1)) (nt v)), T, Q) := by
    unfold sp_passing
    rw [b1, b2, b3]; rfl
  generalize pit (rwq Q 0 (nt i)) (nt v) = a at ea ha es
  generalize pit (rwq Q 0 (nt i + 1)) (nt v) = b at eb hb es
  refine ⟨by show vp_in (4 * i + v) 256; rw [x0]; exact vp_in_nI (by omega) (by decide), by show vp_in (4 * i + 4 + v) 256; rw [x1]; exact vp_in_nI (by omega) (by decide), ?_⟩
  have hm : 12 ≤ min a b ∧ min a b < 100 := by omega
  have hd : dst b a < 2 ^ 31 := by unfold dst; split <;> omega
  have hds : dst a b = dst b a := by unfold dst; split <;> split <;> omega
  have good : (dst b a = 3 ∨ dst b a = 4) → psA T a b = if inS T (min a b + 1) = true then nI (min a b + 1) else if inS T (min a b + 2) = true then nI (min a b + 2) else -2 := fun h => by unfold psA; rw [if_pos h]
  have none' : ¬ (dst b a = 3 ∨ dst b a = 4) → psA T a b = -2 := fun h => by unfold psA; rw [if_neg h]
  have k66 : (dst b a = 3 ∨ dst b a = 4) → ∀ n k, n + k = 3 → 1 ≤ k → (k = 2 → ¬ inS T (min a b + 1) = true) → (k = 3 → ¬ inS T (min a b + 1) = true ∧ ¬ inS T (min a b + 2) = true) → ∀ o, J 66 0 0 [some (.ref 117), some (.int i), some (.int v), some (.int (nI a)), some (.int (nI b)), some (.int (nI (dst a b))), some (.int (nI (min a b))), some (.int (nI k)), o] [] (st_h (m0 z)) := by
    intro h n
    induction n with
    | zero =>
      intro k hk h1 _ hk3 o
      have hk3' : k = 3 := by omega
      subst hk3'
      refine ri_go hJ [] 90 66 rfl ?_
      refine ⟨fun _ => MO_same hI ?_, fun c => absurd (by decide) c⟩
      rw [es, good h, if_neg (hk3 rfl).1, if_neg (hk3 rfl).2]
    | succ n ih =>
      intro k hk h1 hk2 hk3 o
      have e1 := nI_1 k
      have ep : nI (min a b) + nI k = nI (min a b + k) := nI_add _ _
      have hg := e10_degreeOf l (m0 z) T hW hM0 (p := min a b + k) (by omega)
      rw [← ep] at hg
      have hdl := dgo_lt T (min a b + k)
      have hlist : ∀ d, d < 12 → sJ.getD d 0 < 2 ∧ sN.getD d 0 < 2 := by decide
      have key : inS T (min a b + k) = ((if T 8 1 = 1 then sN else sJ).getD (dgo T (min a b + k)) 0 == 1) := inS_m hW (by omega)
      have h11 := hW.2.2.1
      have k87 : ∀ x : Int32, (x = 1 ↔ inS T (min a b + k) = true) → J 87 0 0 [some (.ref 117), some (.int i), some (.int v), some (.int (nI a)), some (.int (nI b)), some (.int (nI (dst a b))), some (.int (nI (min a b))), some (.int (nI k)), some (.int (nI (dgo T (min a b + k))))] [.int x] (st_h (m0 z)) := by
        intro x hx
        refine ri_go hJ [66] 90 87 rfl ?_
        refine ⟨fun c => ?_, fun c => MO_same (v := nI (min a b) + nI k) hI ?_⟩
        · have c : ¬ inS T (min a b + k) = true := fun q => c (hx.mpr q)
          have := ih (k + 1) (by omega) (by omega) (fun e => by rw [show k = 1 by omega] at c; exact c) (fun e => by
            have e2 : k = 2 := by omega
            rw [e2] at c
            exact ⟨hk2 e2, c⟩) (some (.int (nI (dgo T (min a b + k)))))
          rw [← e1] at this
          exact this
        · have c := hx.mp (Decidable.not_not.mp c)
          rw [ep, es, good h]
          by_cases e : k = 1
          · rw [e] at c ⊢
            rw [if_pos c]
          · have e2 : k = 2 := by omega
            rw [e2] at c ⊢
            rw [if_neg (hk2 e2), if_pos c]
      refine ri_go hJ [87] 90 66 rfl ?_
      refine ⟨fun c => absurd (show nI 2 < nI k from c) (by rw [nn_lt (by decide) (by omega)]; omega), fun _ => ⟨_, hg, ?_⟩⟩
      rintro r h' ⟨rfl, rfl⟩
      refine ⟨fun c => ⟨vp_in_nI hdl (by decide), k87 _ ?_⟩, fun c => ⟨vp_in_nI hdl (by decide), k87 _ ?_⟩⟩
      · have c : (m0 z).1 101 6 = 0 := c
        rw [hM0.1.2.1, nk_eq (k := 0) (b := 0) rfl (by omega) (by decide)] at c
        rw [cl31 (by omega), (hM0.2.2.2.2.2.2.2 _ hdl).1, key, if_neg (by omega), nk_eq (k := 1) (b := 1) rfl (by have := hlist _ hdl; omega) (by decide)]
        simp
      · have c : ¬ (m0 z).1 101 6 = 0 := c
        rw [hM0.1.2.1, nk_eq (k := 0) (b := 0) rfl (by omega) (by decide)] at c
        rw [cl31 (by omega), (hM0.2.2.2.2.2.2.2 _ hdl).2, key, if_pos (by omega), nk_eq (k := 1) (b := 1) rfl (by have := hlist _ hdl; omega) (by decide)]
        simp
  have k44 : J 44 0 0 [some (.ref 117), some (.int i), some (.int v), some (.int (nI a)), some (.int (nI b)), none, none, none, none] [] (st_h (m0 z)) := by
    refine ri_go hJ [66] 90 44 rfl ?_
    refine ⟨_, e10_sizeN l _ (a := a) (b := b) (by omega) (by omega), ?_⟩
    rintro r h' ⟨rfl, rfl⟩
    have hdd : dst a b < 2 ^ 31 := by rw [hds]; exact hd
    have fin : (dst b a = 3 ∨ dst b a = 4) → (nI b ≤ nI a → J 66 0 0 [some (.ref 117), some (.int i), some (.int v), some (.int (nI a)), some (.int (nI b)), some (.int (nI (dst a b))), some (.int (nI b)), some (.int 1), none] [] (st_h (m0 z))) ∧ (¬ nI b ≤ nI a → J 66 0 0 [some (.ref 117), some (.int i), some (.int v), some (.int (nI a)), some (.int (nI b)), some (.int (nI (dst a b))), some (.int (nI a)), some (.int 1), none] [] (st_h (m0 z))) := by
      intro h
      have := k66 h 2 1 rfl (Nat.le_refl _) (fun e => absurd e (by decide)) (fun e => absurd e (by decide)) none
      refine ⟨fun c => ?_, fun c => ?_⟩
      · rw [nn_le (by omega) (by omega)] at c
        rw [Nat.min_eq_right c] at this; exact this
      · rw [nn_le (by omega) (by omega)] at c
        rw [Nat.min_eq_left (by omega)] at this; exact this
    refine ⟨fun c => fin (Or.inl ?_), fun c5 => ⟨fun c => fin (Or.inr ?_), fun c6 => MO_same hI ?_⟩⟩
    · have c : nI (dst a b) = nI 3 := c
      rw [nn_eq hdd (by decide), hds] at c
      exact c
    · have c : nI (dst a b) = nI 4 := c
      rw [nn_eq hdd (by decide), hds] at c
      exact c
    · have c5 : ¬ nI (dst a b) = nI 3 := c5
      have c6 : ¬ nI (dst a b) = nI 4 := c6
      rw [nn_eq hdd (by decide), hds] at c5 c6
      rw [es, none' (fun q => q.elim c5 c6)]
  rw [← ea, ← eb] at k44
  exact k44
