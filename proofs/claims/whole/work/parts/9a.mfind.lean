/-! THE REFERENCE: findStates, over any invariant of its five loops -/
def p4 (a b d e : Nat) : Nat → Nat := fun v => [a, b, d, e].getD v 0
def lov (T : tT) (b0 : Bool) (v w q : Nat) : Nat := if b0 = true then T 6 v else max (T 6 v) (q - w)
def hiv (T : tT) (b0 : Bool) (v q : Nat) : Nat := if b0 = true then T 7 v else min (T 7 v) q
/-- only the entries of place i, the pitches now, and what barred -/
def EF (z z' : st_T) (i : Nat) : Prop := (∀ q, q < 1600 * i ∨ 1600 * i + 1600 ≤ q → z'.2.1 114 q = z.2.1 114 q) ∧ (∀ q, q < 400 * i ∨ 400 * i + 400 ≤ q → z'.2.1 115 q = z.2.1 115 q ∧ z'.2.1 116 q = z.2.1 116 q) ∧ mm [32] [114, 115, 116, 127] z z'
theorem max_i {a b : Nat} (ha : a < 2 ^ 31) (hb : b < 2 ^ 31) : (if nI a ≤ nI b then nI b else nI a) = nI (max a b) := by
  by_cases q : a ≤ b
  · rw [if_pos (by rw [nn_le ha hb]; exact q), Nat.max_eq_right q]
  · rw [if_neg (by rw [nn_le ha hb]; exact q), Nat.max_eq_left (by omega)]
theorem min_j {a b : Nat} (ha : a < 2 ^ 31) (hb : b < 2 ^ 31) : (if nI b ≤ nI a then nI b else nI a) = nI (min a b) := by
  by_cases q : b ≤ a
  · rw [if_pos (by rw [nn_le hb ha]; exact q), Nat.min_eq_right q]
  · rw [if_neg (by rw [nn_le hb ha]; exact q), Nat.min_eq_left (by omega)]
theorem upd_at {f : Nat → Int32} {j k : Nat} {x : Int32} (h : ¬ k = j) : upd f j x k = f k := pk_un h
set_option maxHeartbeats 4000000 in
theorem e10_findStates (l : Launch) (z : st_T) (T : tT) (hW : TW T) {i : Nat} (hi : i < T 8 2) (st b0 : Bool) (I : st_T → Int32 → Nat → Nat → Nat → Nat → Nat → Prop)
    (hM : ∀ z1 n c a b d e, I z1 n c a b d e → RM z1 T)
    (h127 : ∀ z1 n c a b d e g, I z1 n c a b d e → I (fa z1 127 g) n c a b d e)
    (hst : I (fs z 101 32 0) 0 0 0 0 0 0)
    (hc1 : ∀ z1 n c, c < 13 → I z1 n c 0 0 0 0 → figM T i c = false → I z1 n (c + 1) 0 0 0 0)
    (ha0 : ∀ z1 n c, c < 13 → I z1 n c 0 0 0 0 → I z1 n c (T 6 0) 0 0 0)
    (ha1 : ∀ z1 n c a, c < 13 → I z1 n c a 0 0 0 → T 7 0 < a → I z1 n (c + 1) 0 0 0 0)
    (hb0 : ∀ z1 n c a, c < 13 → I z1 n c a 0 0 0 → I z1 n c a (lov T b0 1 12 a) 0 0)
    (hb1 : ∀ z1 n c a b, c < 13 → I z1 n c a b 0 0 → (hiv T b0 1 a < b ∨ mhv T i 0 a c = false) → I z1 n c (a + 1) 0 0 0)
    (hd0 : ∀ z1 n c a b, c < 13 → I z1 n c a b 0 0 → I z1 n c a b (lov T b0 2 12 b) 0)
    (hd1 : ∀ z1 n c a b d, c < 13 → I z1 n c a b d 0 → (hiv T b0 2 b < d ∨ mhv T i 1 b c = false) → I z1 n c a (b + 1) 0 0)
    (he0 : ∀ z1 n c a b d, c < 13 → I z1 n c a b d 0 → I z1 n c a b d (lov T b0 3 19 d))
    (he1 : ∀ z1 n c a b d e, c < 13 → I z1 n c a b d e → (hiv T b0 3 d < e ∨ mhv T i 2 d c = false) → I z1 n c a b (d + 1) 0)
    (hbody : ∀ z1 n c a b d e, c < 13 → figM T i c = true → (T 6 0 ≤ a ∧ a ≤ T 7 0) → (lov T b0 1 12 a ≤ b ∧ b ≤ hiv T b0 1 a) → (lov T b0 2 12 b ≤ d ∧ d ≤ hiv T b0 2 b) → (lov T b0 3 19 d ≤ e ∧ e ≤ hiv T b0 3 d) → mhv T i 0 a c = true → mhv T i 1 b c = true → mhv T i 2 d c = true → NW z1 (p4 a b d e) → I z1 n c a b d e → (mhv T i 3 e c = false → I z1 n c a b d (e + 1)) ∧ (mhv T i 3 e c = true → ∀ x, BX T i c (p4 a b d e) x → (¬ x = 0 → I (fs z1 101 32 (z1.1 101 32 ||| x)) n c a b d (e + 1)) ∧ (x = 0 → (st = false ∨ nI 400 ≤ n → I (fs z1 101 32 (z1.1 101 32 ||| x)) (n + 1) c a b d (e + 1)) ∧ (st = true → ¬ nI 400 ≤ n → ∃ Po : ri_O, ri_Ev l y10_putState w10_putState r10_putState 0 0 [.ref 117, .int (nI i), .int n, .int (nI c)] (st_h (fs z1 101 32 (z1.1 101 32 ||| x))) Po ∧ ∀ (r : Option Value) (h' : List ri_C), Po r h' → r = none ∧ ∃ z3, h' = st_h z3 ∧ I z3 (n + 1) c a b d (e + 1) ∧ z3.2.1 127 = z1.2.1 127)))) : ri_Ev l y10_findStates w10_findStates r10_findStates 0 0 [.ref 117, .int (nI i), .int (zb st), .int (zb b0)] (st_h z) (fun r h' => ∃ n z', r = some (.int n) ∧ h' = st_h z' ∧ I z' n 13 0 0 0 0) := by
  refine ri_ev (t10_findStates l _) rfl rfl rfl (Nat.le_of_ble_eq_true rfl) rfl (z10_findStates l _) (fun J hJ => ?_)
  have hn := hW.1
  have hrg := hW.2.2.2.2.2.2.2.1
  have r0 := hrg 0 (by decide)
  have r1 := hrg 1 (by decide)
  have r2 := hrg 2 (by decide)
  have r3 := hrg 3 (by decide)
  have w0 : vp_in 0 4 := vp_in_nI (n := 0) (by decide) (by decide)
  have w1 : vp_in 1 4 := vp_in_nI (n := 1) (by decide) (by decide)
  have w2 : vp_in 2 4 := vp_in_nI (n := 2) (by decide) (by decide)
  have w3 : vp_in 3 4 := vp_in_nI (n := 3) (by decide) (by decide)
  have lo : ∀ z1 : st_T, RM z1 T → ∀ v, v < 4 → z1.2.1 112 v = nI (T 6 v) ∧ z1.2.1 113 v = nI (T 7 v) := fun z1 h => h.2.2.2.2.2.1
  have hvb : ∀ v q, v < 4 → hiv T b0 v q ≤ 84 := by
    intro v q hv
    have := hrg v hv
    unfold hiv; split <;> omega
  -- the loop over the chords, from chord c on
  have cloop : ∀ m c, m + c = 13 → ∀ z1 n, I z1 n c 0 0 0 0 → ∀ o6 o7 o8 o9 o10, J 7 0 0 [some (.ref 117), some (.int (nI i)), some (.int (zb st)), some (.int (zb b0)), some (.int n), some (.int (nI c)), o6, o7, o8, o9, o10] [] (st_h z1) := by
    intro m
    induction m with
    | zero =>
      intro c hc z1 n hI o6 o7 o8 o9 o10
      have hc13 : c = 13 := by omega
      subst hc13
      refine ri_go hJ [] 90 7 rfl ?_
      exact ⟨fun _ => ⟨n, z1, rfl, rfl, hI⟩, fun q => absurd (by decide) q⟩
    | succ m ihc =>
      intro c hcm z1 n hI o6 o7 o8 o9 o10
      have hc : c < 13 := by omega
      have ec := nI_1 c
      -- on to the next chord
      have k211 : ∀ z2 n2, I z2 n2 (c + 1) 0 0 0 0 → ∀ o6 o7 o8 o9 o10, J 211 0 0 [some (.ref 117), some (.int (nI i)), some (.int (zb st)), some (.int (zb b0)), some (.int n2), some (.int (nI c)), o6, o7, o8, o9, o10] [] (st_h z2) := by
        intro z2 n2 h2 o6 o7 o8 o9 o10
        refine ri_go hJ [7] 90 211 rfl ?_
        have := ihc (c + 1) (by omega) z2 n2 h2 o6 o7 o8 o9 o10
        rw [← ec] at this
        exact this
      -- the loop over the soprano
      have aloop : figM T i c = true → ∀ m a, T 7 0 + 1 ≤ m + a → T 6 0 ≤ a → a < 200 → ∀ z1 n, I z1 n c a 0 0 0 → ∀ o7 o8 o9 o10, J 32 0 0 [some (.ref 117), some (.int (nI i)), some (.int (zb st)), some (.int (zb b0)), some (.int n), some (.int (nI c)), some (.int (nI a)), o7, o8, o9, o10] [] (st_h z1) := by
        intro hf m
        induction m with
        | zero =>
          intro a hm ha haB z1 n hI o7 o8 o9 o10
          have hR := lo z1 (hM _ _ _ _ _ _ _ hI)
          refine ri_go hJ [211] 90 32 rfl ?_
          refine ⟨w0, fun _ => k211 z1 n (ha1 z1 n c a hc hI (by omega)) _ _ _ _ _, fun q => absurd (show z1.2.1 113 0 < nI a from ?_) q⟩
          rw [(hR 0 (by decide)).2, nn_lt (by omega) (by omega)]; omega
        | succ m iha =>
          intro a hm ha haB z1 n hI o7 o8 o9 o10
          have ea := nI_1 a
          have hR := lo z1 (hM _ _ _ _ _ _ _ hI)
          -- on to the next soprano
          have k209 : a ≤ T 7 0 → ∀ z2 n2, I z2 n2 c (a + 1) 0 0 0 → ∀ o7 o8 o9 o10, J 209 0 0 [some (.ref 117), some (.int (nI i)), some (.int (zb st)), some (.int (zb b0)), some (.int n2), some (.int (nI c)), some (.int (nI a)), o7, o8, o9, o10] [] (st_h z2) := by
            intro hle z2 n2 h2 o7 o8 o9 o10
            refine ri_go hJ [32] 90 209 rfl ?_
            have := iha (a + 1) (by omega) (by omega) (by omega) z2 n2 h2 o7 o8 o9 o10
            rw [← ea] at this
            exact this
          -- the loop over the alto
          have bloop : a ≤ T 7 0 → ∀ m b, hiv T b0 1 a + 1 ≤ m + b → lov T b0 1 12 a ≤ b → b < 200 → ∀ z1 n, I z1 n c a b 0 0 → z1.2.1 127 0 = nI a → ∀ o8 o9 o10, J 59 0 0 [some (.ref 117), some (.int (nI i)), some (.int (zb st)), some (.int (zb b0)), some (.int n), some (.int (nI c)), some (.int (nI a)), some (.int (nI b)), o8, o9, o10] [] (st_h z1) := by
            intro hle m
            induction m with
            | zero =>
              intro b hm hb hbB z1 n hI hz o8 o9 o10
              have hR := lo z1 (hM _ _ _ _ _ _ _ hI)
              have k73 : J 73 0 0 [some (.ref 117), some (.int (nI i)), some (.int (zb st)), some (.int (zb b0)), some (.int n), some (.int (nI c)), some (.int (nI a)), some (.int (nI b)), o8, o9, o10] [.int (nI (hiv T b0 1 a)), .int (nI b)] (st_h z1) := by
                refine ri_go hJ [209] 90 73 rfl ?_
                refine ⟨fun _ => k209 hle z1 n (hb1 z1 n c a b hc hI (Or.inl (by omega))) _ _ _ _, fun q => absurd (show nI (hiv T b0 1 a) < nI b from ?_) q⟩
                have := hvb 1 a (by decide)
                rw [nn_lt (by omega) (by omega)]; omega
              refine ri_go hJ [73] 90 59 rfl ?_
              refine ⟨fun q => ⟨w1, _, e10_lesser l _ _ _, ?_⟩, fun q => ⟨w1, ?_⟩⟩
              · rintro r h' ⟨rfl, rfl⟩
                have q := zb_0.mp q
                have e : (if nI a ≤ z1.2.1 113 1 then nI a else z1.2.1 113 1) = nI (hiv T b0 1 a) := by
                  rw [(hR 1 (by decide)).2, min_j (by omega) (by omega)]
                  unfold hiv; rw [q]; rfl
                rw [← e] at k73
                exact k73
              · have q := zb_1.mp q
                have e : z1.2.1 113 1 = nI (hiv T b0 1 a) := by
                  rw [(hR 1 (by decide)).2]
                  unfold hiv; rw [q]; rfl
                rw [← e] at k73
                exact k73
            | succ m ihb =>
              intro b hm hb hbB z1 n hI hz o8 o9 o10
              have eb := nI_1 b
              have hMz := hM _ _ _ _ _ _ _ hI
              have hR := lo z1 hMz
              -- on to the next alto
              have k207 : b ≤ hiv T b0 1 a → ∀ z2 n2, I z2 n2 c a (b + 1) 0 0 → z2.2.1 127 0 = nI a → ∀ o8 o9 o10, J 207 0 0 [some (.ref 117), some (.int (nI i)), some (.int (zb st)), some (.int (zb b0)), some (.int n2), some (.int (nI c)), some (.int (nI a)), some (.int (nI b)), o8, o9, o10] [] (st_h z2) := by
                intro hbl z2 n2 h2 hz2 o8 o9 o10
                have := hvb 1 a (by decide)
                refine ri_go hJ [59] 90 207 rfl ?_
                have := ihb (b + 1) (by omega) (by omega) (by omega) z2 n2 h2 hz2 o8 o9 o10
                rw [← eb] at this
                exact this
              -- the loop over the tenor
              have dloop : b ≤ hiv T b0 1 a → mhv T i 0 a c = true → ∀ m d, hiv T b0 2 b + 1 ≤ m + d → lov T b0 2 12 b ≤ d → d < 200 → ∀ z1 n, I z1 n c a b d 0 → z1.2.1 127 0 = nI a → z1.2.1 127 1 = nI b → ∀ o9 o10, J 102 0 0 [some (.ref 117), some (.int (nI i)), some (.int (zb st)), some (.int (zb b0)), some (.int n), some (.int (nI c)), some (.int (nI a)), some (.int (nI b)), some (.int (nI d)), o9, o10] [] (st_h z1) := by
                intro hbl h0m m
                induction m with
                | zero =>
                  intro d hm hd hdB z1 n hI hz hzb o9 o10
                  have hR := lo z1 (hM _ _ _ _ _ _ _ hI)
                  have k116 : J 116 0 0 [some (.ref 117), some (.int (nI i)), some (.int (zb st)), some (.int (zb b0)), some (.int n), some (.int (nI c)), some (.int (nI a)), some (.int (nI b)), some (.int (nI d)), o9, o10] [.int (nI (hiv T b0 2 b)), .int (nI d)] (st_h z1) := by
                    refine ri_go hJ [207] 90 116 rfl ?_
                    refine ⟨fun _ => k207 hbl z1 n (hd1 z1 n c a b d hc hI (Or.inl (by omega))) hz _ _ _, fun q => absurd (show nI (hiv T b0 2 b) < nI d from ?_) q⟩
                    have := hvb 2 b (by decide)
                    rw [nn_lt (by omega) (by omega)]; omega
                  refine ri_go hJ [116] 90 102 rfl ?_
                  refine ⟨fun q => ⟨w2, _, e10_lesser l _ _ _, ?_⟩, fun q => ⟨w2, ?_⟩⟩
                  · rintro r h' ⟨rfl, rfl⟩
                    have q := zb_0.mp q
                    have e : (if nI b ≤ z1.2.1 113 2 then nI b else z1.2.1 113 2) = nI (hiv T b0 2 b) := by
                      rw [(hR 2 (by decide)).2, min_j (by omega) (by omega)]
                      unfold hiv; rw [q]; rfl
                    rw [← e] at k116
                    exact k116
                  · have q := zb_1.mp q
                    have e : z1.2.1 113 2 = nI (hiv T b0 2 b) := by
                      rw [(hR 2 (by decide)).2]
                      unfold hiv; rw [q]; rfl
                    rw [← e] at k116
                    exact k116
                | succ m ihd =>
                  intro d hm hd hdB z1 n hI hz hzb o9 o10
                  have ed := nI_1 d
                  have hMz := hM _ _ _ _ _ _ _ hI
                  have hR := lo z1 hMz
                  -- on to the next tenor
                  have k205 : d ≤ hiv T b0 2 b → ∀ z2 n2, I z2 n2 c a b (d + 1) 0 → z2.2.1 127 0 = nI a → z2.2.1 127 1 = nI b → ∀ o9 o10, J 205 0 0 [some (.ref 117), some (.int (nI i)), some (.int (zb st)), some (.int (zb b0)), some (.int n2), some (.int (nI c)), some (.int (nI a)), some (.int (nI b)), some (.int (nI d)), o9, o10] [] (st_h z2) := by
                    intro hdl z2 n2 h2 hz2 hzb2 o9 o10
                    have := hvb 2 b (by decide)
                    refine ri_go hJ [102] 90 205 rfl ?_
                    have := ihd (d + 1) (by omega) (by omega) (by omega) z2 n2 h2 hz2 hzb2 o9 o10
                    rw [← ed] at this
                    exact this
                  -- the loop over the bass
                  have eloop : d ≤ hiv T b0 2 b → mhv T i 1 b c = true → ∀ m e, hiv T b0 3 d + 1 ≤ m + e → lov T b0 3 19 d ≤ e → e < 200 → ∀ z1 n, I z1 n c a b d e → z1.2.1 127 0 = nI a → z1.2.1 127 1 = nI b → z1.2.1 127 2 = nI d → ∀ o10, J 145 0 0 [some (.ref 117), some (.int (nI i)), some (.int (zb st)), some (.int (zb b0)), some (.int n), some (.int (nI c)), some (.int (nI a)), some (.int (nI b)), some (.int (nI d)), some (.int (nI e)), o10] [] (st_h z1) := by
                    intro hdl h1m m
                    induction m with
                    | zero =>
                      intro e hm he heB z1 n hI hz hzb hzd o10
                      have hR := lo z1 (hM _ _ _ _ _ _ _ hI)
                      have k159 : J 159 0 0 [some (.ref 117), some (.int (nI i)), some (.int (zb st)), some (.int (zb b0)), some (.int n), some (.int (nI c)), some (.int (nI a)), some (.int (nI b)), some (.int (nI d)), some (.int (nI e)), o10] [.int (nI (hiv T b0 3 d)), .int (nI e)] (st_h z1) := by
                        refine ri_go hJ [205] 90 159 rfl ?_
                        refine ⟨fun _ => k205 hdl z1 n (he1 z1 n c a b d e hc hI (Or.inl (by omega))) hz hzb _ _, fun q => absurd (show nI (hiv T b0 3 d) < nI e from ?_) q⟩
                        have := hvb 3 d (by decide)
                        rw [nn_lt (by omega) (by omega)]; omega
                      refine ri_go hJ [159] 90 145 rfl ?_
                      refine ⟨fun q => ⟨w3, _, e10_lesser l _ _ _, ?_⟩, fun q => ⟨w3, ?_⟩⟩
                      · rintro r h' ⟨rfl, rfl⟩
                        have q := zb_0.mp q
                        have e' : (if nI d ≤ z1.2.1 113 3 then nI d else z1.2.1 113 3) = nI (hiv T b0 3 d) := by
                          rw [(hR 3 (by decide)).2, min_j (by omega) (by omega)]
                          unfold hiv; rw [q]; rfl
                        rw [← e'] at k159
                        exact k159
                      · have q := zb_1.mp q
                        have e' : z1.2.1 113 3 = nI (hiv T b0 3 d) := by
                          rw [(hR 3 (by decide)).2]
                          unfold hiv; rw [q]; rfl
                        rw [← e'] at k159
                        exact k159
                    | succ m ihe =>
                      intro e hm he heB z1 n hI hz hzb hzd o10
                      have ee := nI_1 e
                      have hMz := hM _ _ _ _ _ _ _ hI
                      have hR := lo z1 hMz
                      have hhb := hvb 3 d (by decide)
                      -- on to the next bass
                      have k203 : e ≤ hiv T b0 3 d → ∀ z2 n2, I z2 n2 c a b d (e + 1) → z2.2.1 127 0 = nI a → z2.2.1 127 1 = nI b → z2.2.1 127 2 = nI d → ∀ o10, J 203 0 0 [some (.ref 117), some (.int (nI i)), some (.int (zb st)), some (.int (zb b0)), some (.int n2), some (.int (nI c)), some (.int (nI a)), some (.int (nI b)), some (.int (nI d)), some (.int (nI e)), o10] [] (st_h z2) := by
                        intro hel z2 n2 h2 hz2 hzb2 hzd2 o10
                        refine ri_go hJ [145] 90 203 rfl ?_
                        have := ihe (e + 1) (by omega) (by omega) (by omega) z2 n2 h2 hz2 hzb2 hzd2 o10
                        rw [← ee] at this
                        exact this
                      have k159 : J 159 0 0 [some (.ref 117), some (.int (nI i)), some (.int (zb st)), some (.int (zb b0)), some (.int n), some (.int (nI c)), some (.int (nI a)), some (.int (nI b)), some (.int (nI d)), some (.int (nI e)), o10] [.int (nI (hiv T b0 3 d)), .int (nI e)] (st_h z1) := by
                        refine ri_go hJ [205, 203, 192] 90 159 rfl ?_
                        refine ⟨fun q => k205 hdl z1 n (he1 z1 n c a b d e hc hI (Or.inl ?_)) hz hzb _ _, fun q => ⟨_, e10_mayHave l z1 T hW hMz (i := i) (v := 2) (p := d) (c := c) (by omega) (by decide) (by omega) hc, ?_⟩⟩
                        · have q : nI (hiv T b0 3 d) < nI e := q
                          rw [nn_lt (by omega) (by omega)] at q
                          exact q
                        · rintro r h' ⟨rfl, rfl⟩
                          have q : ¬ nI (hiv T b0 3 d) < nI e := q
                          rw [nn_lt (by omega) (by omega)] at q
                          refine ⟨fun q2 => k205 hdl z1 n (he1 z1 n c a b d e hc hI (Or.inr (zb_0.mp q2))) hz hzb _ _, fun q2 => ⟨w3, ?_⟩⟩
                          have h2m := zb_1.mp q2
                          have hz3 : (fa z1 127 (upd (z1.2.1 127) 3 (nI e))).2.1 127 0 = nI a := by rw [fa_self, pk_un (by decide)]; exact hz
                          have hzb3 : (fa z1 127 (upd (z1.2.1 127) 3 (nI e))).2.1 127 1 = nI b := by rw [fa_self, pk_un (by decide)]; exact hzb
                          have hzd3 : (fa z1 127 (upd (z1.2.1 127) 3 (nI e))).2.1 127 2 = nI d := by rw [fa_self, pk_un (by decide)]; exact hzd
                          have hI3 := h127 z1 n c a b d e (upd (z1.2.1 127) 3 (nI e)) hI
                          have hM3 := hM _ _ _ _ _ _ _ hI3
                          have hNW : NW (fa z1 127 (upd (z1.2.1 127) 3 (nI e))) (p4 a b d e) := by
                            intro v hv
                            match v, hv with
                            | 0, _ => exact hz3
                            | 1, _ => exact hzb3
                            | 2, _ => exact hzd3
                            | 3, _ => rw [fa_self, pk_us]; rfl
                            | v + 4, hv => exact absurd hv (by omega)
                          have hB := hbody _ n c a b d e hc hf ⟨ha, hle⟩ ⟨hb, hbl⟩ ⟨hd, hdl⟩ ⟨he, by omega⟩ h0m h1m h2m hNW hI3
                          refine ⟨_, e10_mayHave l _ T hW hM3 (i := i) (v := 3) (p := e) (c := c) (by omega) (by decide) (by omega) hc, ?_⟩
                          rintro r h' ⟨rfl, rfl⟩
                          refine ⟨fun q3 => k203 (by omega) _ n (hB.1 (zb_0.mp q3)) hz3 hzb3 hzd3 _, fun q3 => ?_⟩
                          have hB2 := hB.2 (zb_1.mp q3)
                          refine ⟨_, e10_barsState l _ T hW hM3 (i := i) (c := c) (p := p4 a b d e) hi hc hNW ?_, ?_⟩
                          · intro v hv
                            match v, hv with
                            | 0, _ => show a < 2 ^ 20; omega
                            | 1, _ => show b < 2 ^ 20; omega
                            | 2, _ => show d < 2 ^ 20; omega
                            | 3, _ => show e < 2 ^ 20; omega
                            | v + 4, hv => exact absurd hv (by omega)
                          rintro r h' ⟨x, rfl, rfl, hx⟩
                          obtain ⟨hx1, hx2⟩ := hB2 x hx
                          refine ⟨fun q4 => k203 (by omega) _ n (hx1 q4) hz3 hzb3 hzd3 _, fun q4 => ?_⟩
                          obtain ⟨hy1, hy2⟩ := hx2 (Decidable.not_not.mp q4)
                          have k202 : ∀ z2, I z2 (n + 1) c a b d (e + 1) → z2.2.1 127 = (fa z1 127 (upd (z1.2.1 127) 3 (nI e))).2.1 127 → ∀ o10, J 202 0 0 [some (.ref 117), some (.int (nI i)), some (.int (zb st)), some (.int (zb b0)), some (.int n), some (.int (nI c)), some (.int (nI a)), some (.int (nI b)), some (.int (nI d)), some (.int (nI e)), o10] [] (st_h z2) := by
                            intro z2 h2 hz2 o10
                            refine ri_go hJ [203] 90 202 rfl ?_
                            exact k203 (by omega) z2 (n + 1) h2 (by rw [hz2]; exact hz3) (by rw [hz2]; exact hzb3) (by rw [hz2]; exact hzd3) _
                          have k192 : ∀ o10, J 192 0 0 [some (.ref 117), some (.int (nI i)), some (.int (zb st)), some (.int (zb b0)), some (.int n), some (.int (nI c)), some (.int (nI a)), some (.int (nI b)), some (.int (nI d)), some (.int (nI e)), o10] [] (st_h (fs (fa z1 127 (upd (z1.2.1 127) 3 (nI e))) 101 32 ((fa z1 127 (upd (z1.2.1 127) 3 (nI e))).1 101 32 ||| x))) := by
                            intro o10
                            refine ri_go hJ [202] 90 192 rfl ?_
                            refine ⟨fun q5 => k202 _ (hy1 (Or.inl (zb_0.mp q5))) rfl _, fun q5 => ⟨fun q6 => k202 _ (hy1 (Or.inr q6)) rfl _, fun q6 => ?_⟩⟩
                            obtain ⟨Po, hPo, hPr⟩ := hy2 (zb_1.mp q5) q6
                            refine ⟨Po, hPo, fun r h' hr => ?_⟩
                            obtain ⟨rfl, z3, rfl, hI4, h127'⟩ := hPr r h' hr
                            exact k202 z3 hI4 h127' _
                          exact k192 _
                      refine ri_go hJ [159] 90 145 rfl ?_
                      refine ⟨fun q => ⟨w3, _, e10_lesser l _ _ _, ?_⟩, fun q => ⟨w3, ?_⟩⟩
                      · rintro r h' ⟨rfl, rfl⟩
                        have q := zb_0.mp q
                        have e' : (if nI d ≤ z1.2.1 113 3 then nI d else z1.2.1 113 3) = nI (hiv T b0 3 d) := by
                          rw [(hR 3 (by decide)).2, min_j (by omega) (by omega)]
                          unfold hiv; rw [q]; rfl
                        rw [← e'] at k159
                        exact k159
                      · have q := zb_1.mp q
                        have e' : z1.2.1 113 3 = nI (hiv T b0 3 d) := by
                          rw [(hR 3 (by decide)).2]
                          unfold hiv; rw [q]; rfl
                        rw [← e'] at k159
                        exact k159
                  -- into the loop over the bass
                  have k144 : d ≤ hiv T b0 2 b → mhv T i 1 b c = true → ∀ o9 o10, J 144 0 0 [some (.ref 117), some (.int (nI i)), some (.int (zb st)), some (.int (zb b0)), some (.int n), some (.int (nI c)), some (.int (nI a)), some (.int (nI b)), some (.int (nI d)), o9, o10] [.int (nI (lov T b0 3 19 d))] (st_h (fa z1 127 (upd (z1.2.1 127) 2 (nI d)))) := by
                    intro hdl h1m o9 o10
                    refine ri_go hJ [145] 90 144 rfl ?_
                    exact eloop hdl h1m (hiv T b0 3 d + 1) (lov T b0 3 19 d) (by omega) (Nat.le_refl _) (by unfold lov; split <;> omega) _ n (he0 _ n c a b d hc (h127 _ _ _ _ _ _ _ _ hI)) (by rw [fa_self, pk_un (by decide)]; exact hz) (by rw [fa_self, pk_un (by decide)]; exact hzb) (by rw [fa_self, pk_us]) _
                  have k116 : J 116 0 0 [some (.ref 117), some (.int (nI i)), some (.int (zb st)), some (.int (zb b0)), some (.int n), some (.int (nI c)), some (.int (nI a)), some (.int (nI b)), some (.int (nI d)), o9, o10] [.int (nI (hiv T b0 2 b)), .int (nI d)] (st_h z1) := by
                    have hhb := hvb 2 b (by decide)
                    refine ri_go hJ [207, 144] 90 116 rfl ?_
                    refine ⟨fun q => k207 hbl z1 n (hd1 z1 n c a b d hc hI (Or.inl ?_)) hz _ _ _, fun q => ⟨_, e10_mayHave l z1 T hW hMz (i := i) (v := 1) (p := b) (c := c) (by omega) (by decide) (by omega) hc, ?_⟩⟩
                    · have q : nI (hiv T b0 2 b) < nI d := q
                      rw [nn_lt (by omega) (by omega)] at q
                      exact q
                    · rintro r h' ⟨rfl, rfl⟩
                      have q : ¬ nI (hiv T b0 2 b) < nI d := q
                      rw [nn_lt (by omega) (by omega)] at q
                      have d36 : 36 ≤ d := by
                        have : T 6 2 ≤ lov T b0 2 12 b := by unfold lov; split <;> omega
                        omega
                      refine ⟨fun q2 => k207 hbl z1 n (hd1 z1 n c a b d hc hI (Or.inr (zb_0.mp q2))) hz _ _ _, fun q2 => ⟨w2, fun q3 => ⟨w3, _, e10_most l _ _ _, ?_⟩, fun q3 => ⟨w3, ?_⟩⟩⟩
                      · rintro r h' ⟨rfl, rfl⟩
                        have k := k144 (by omega) (zb_1.mp q2) o9 o10
                        have e' : (if z1.2.1 112 3 ≤ nI d - nI 19 then nI d - nI 19 else z1.2.1 112 3) = nI (lov T b0 3 19 d) := by
                          rw [(hR 3 (by decide)).1, pk_sub (by omega), max_i (by omega) (by omega)]
                          unfold lov; rw [zb_0.mp q3]; rfl
                        rw [← e'] at k
                        exact k
                      · have k := k144 (by omega) (zb_1.mp q2) o9 o10
                        have e' : z1.2.1 112 3 = nI (lov T b0 3 19 d) := by
                          rw [(hR 3 (by decide)).1]
                          unfold lov; rw [zb_1.mp q3]; rfl
                        rw [← e'] at k
                        exact k
                  refine ri_go hJ [116] 90 102 rfl ?_
                  refine ⟨fun q => ⟨w2, _, e10_lesser l _ _ _, ?_⟩, fun q => ⟨w2, ?_⟩⟩
                  · rintro r h' ⟨rfl, rfl⟩
                    have q := zb_0.mp q
                    have e' : (if nI b ≤ z1.2.1 113 2 then nI b else z1.2.1 113 2) = nI (hiv T b0 2 b) := by
                      rw [(hR 2 (by decide)).2, min_j (by omega) (by omega)]
                      unfold hiv; rw [q]; rfl
                    rw [← e'] at k116
                    exact k116
                  · have q := zb_1.mp q
                    have e' : z1.2.1 113 2 = nI (hiv T b0 2 b) := by
                      rw [(hR 2 (by decide)).2]
                      unfold hiv; rw [q]; rfl
                    rw [← e'] at k116
                    exact k116
              -- into the loop over the tenor
              have k101 : b ≤ hiv T b0 1 a → mhv T i 0 a c = true → ∀ o8 o9 o10, J 101 0 0 [some (.ref 117), some (.int (nI i)), some (.int (zb st)), some (.int (zb b0)), some (.int n), some (.int (nI c)), some (.int (nI a)), some (.int (nI b)), o8, o9, o10] [.int (nI (lov T b0 2 12 b))] (st_h (fa z1 127 (upd (z1.2.1 127) 1 (nI b)))) := by
                intro hbl h0m o8 o9 o10
                refine ri_go hJ [102] 90 101 rfl ?_
                exact dloop hbl h0m (hiv T b0 2 b + 1) (lov T b0 2 12 b) (by omega) (Nat.le_refl _) (by unfold lov; split <;> omega) _ n (hd0 _ n c a b hc (h127 _ _ _ _ _ _ _ _ hI)) (by rw [fa_self, pk_un (by decide)]; exact hz) (by rw [fa_self, pk_us]) _ _
              have k73 : J 73 0 0 [some (.ref 117), some (.int (nI i)), some (.int (zb st)), some (.int (zb b0)), some (.int n), some (.int (nI c)), some (.int (nI a)), some (.int (nI b)), o8, o9, o10] [.int (nI (hiv T b0 1 a)), .int (nI b)] (st_h z1) := by
                have hhb := hvb 1 a (by decide)
                refine ri_go hJ [209, 101] 90 73 rfl ?_
                refine ⟨fun q => k209 hle z1 n (hb1 z1 n c a b hc hI (Or.inl ?_)) _ _ _ _, fun q => ⟨_, e10_mayHave l z1 T hW hMz (i := i) (v := 0) (p := a) (c := c) (by omega) (by decide) (by omega) hc, ?_⟩⟩
                · have q : nI (hiv T b0 1 a) < nI b := q
                  rw [nn_lt (by omega) (by omega)] at q
                  exact q
                · rintro r h' ⟨rfl, rfl⟩
                  have q : ¬ nI (hiv T b0 1 a) < nI b := q
                  rw [nn_lt (by omega) (by omega)] at q
                  have b36 : 36 ≤ b := by
                    have : T 6 1 ≤ lov T b0 1 12 a := by unfold lov; split <;> omega
                    omega
                  refine ⟨fun q2 => k209 hle z1 n (hb1 z1 n c a b hc hI (Or.inr (zb_0.mp q2))) _ _ _ _, fun q2 => ⟨w1, fun q3 => ⟨w2, _, e10_most l _ _ _, ?_⟩, fun q3 => ⟨w2, ?_⟩⟩⟩
                  · rintro r h' ⟨rfl, rfl⟩
                    have k := k101 (by omega) (zb_1.mp q2) o8 o9 o10
                    have e' : (if z1.2.1 112 2 ≤ nI b - nI 12 then nI b - nI 12 else z1.2.1 112 2) = nI (lov T b0 2 12 b) := by
                      rw [(hR 2 (by decide)).1, pk_sub (by omega), max_i (by omega) (by omega)]
                      unfold lov; rw [zb_0.mp q3]; rfl
                    rw [← e'] at k
                    exact k
                  · have k := k101 (by omega) (zb_1.mp q2) o8 o9 o10
                    have e' : z1.2.1 112 2 = nI (lov T b0 2 12 b) := by
                      rw [(hR 2 (by decide)).1]
                      unfold lov; rw [zb_1.mp q3]; rfl
                    rw [← e'] at k
                    exact k
              refine ri_go hJ [73] 90 59 rfl ?_
              refine ⟨fun q => ⟨w1, _, e10_lesser l _ _ _, ?_⟩, fun q => ⟨w1, ?_⟩⟩
              · rintro r h' ⟨rfl, rfl⟩
                have q := zb_0.mp q
                have e' : (if nI a ≤ z1.2.1 113 1 then nI a else z1.2.1 113 1) = nI (hiv T b0 1 a) := by
                  rw [(hR 1 (by decide)).2, min_j (by omega) (by omega)]
                  unfold hiv; rw [q]; rfl
                rw [← e'] at k73
                exact k73
              · have q := zb_1.mp q
                have e' : z1.2.1 113 1 = nI (hiv T b0 1 a) := by
                  rw [(hR 1 (by decide)).2]
                  unfold hiv; rw [q]; rfl
                rw [← e'] at k73
                exact k73
          -- into the loop over the alto
          have k58 : a ≤ T 7 0 → ∀ o7 o8 o9 o10, J 58 0 0 [some (.ref 117), some (.int (nI i)), some (.int (zb st)), some (.int (zb b0)), some (.int n), some (.int (nI c)), some (.int (nI a)), o7, o8, o9, o10] [.int (nI (lov T b0 1 12 a))] (st_h (fa z1 127 (upd (z1.2.1 127) 0 (nI a)))) := by
            intro hle o7 o8 o9 o10
            refine ri_go hJ [59] 90 58 rfl ?_
            exact bloop hle (hiv T b0 1 a + 1) (lov T b0 1 12 a) (by omega) (Nat.le_refl _) (by unfold lov; split <;> omega) _ n (hb0 _ n c a hc (h127 _ _ _ _ _ _ _ _ hI)) (by rw [fa_self, pk_us]) _ _ _
          refine ri_go hJ [211, 58] 90 32 rfl ?_
          refine ⟨w0, fun q => k211 z1 n (ha1 z1 n c a hc hI ?_) _ _ _ _ _, fun q => ⟨w0, fun q3 => ⟨w1, _, e10_most l _ _ _, ?_⟩, fun q3 => ⟨w1, ?_⟩⟩⟩
          · have q : z1.2.1 113 0 < nI a := q
            rw [(hR 0 (by decide)).2, nn_lt (by omega) (by omega)] at q
            exact q
          · rintro r h' ⟨rfl, rfl⟩
            have q : ¬ z1.2.1 113 0 < nI a := q
            rw [(hR 0 (by decide)).2, nn_lt (by omega) (by omega)] at q
            have k := k58 (by omega) o7 o8 o9 o10
            have e' : (if z1.2.1 112 1 ≤ nI a - nI 12 then nI a - nI 12 else z1.2.1 112 1) = nI (lov T b0 1 12 a) := by
              rw [(hR 1 (by decide)).1, pk_sub (by omega), max_i (by omega) (by omega)]
              unfold lov; rw [zb_0.mp q3]; rfl
            rw [← e'] at k
            exact k
          · have q : ¬ z1.2.1 113 0 < nI a := q
            rw [(hR 0 (by decide)).2, nn_lt (by omega) (by omega)] at q
            have k := k58 (by omega) o7 o8 o9 o10
            have e' : z1.2.1 112 1 = nI (lov T b0 1 12 a) := by
              rw [(hR 1 (by decide)).1]
              unfold lov; rw [zb_1.mp q3]; rfl
            rw [← e'] at k
            exact k
      -- may the chord stand
      have hMz := hM _ _ _ _ _ _ _ hI
      have hR := lo z1 hMz
      have es : z1.2.1 110 (nI c).toNatClampNeg = nI (T 4 c) := by rw [cl31 (by omega)]; exact hMz.2.2.2.1 c hc
      have ef : z1.2.1 107 (nI i).toNatClampNeg = nD (T 1 i) := by rw [cl31 (by omega)]; exact (hMz.2.2.1 i (by omega)).1
      have h4 := hW.2.2.2.2.2.1 c hc
      have h1 := (hW.2.2.2.2.1 i (by omega)).1
      have vi : vp_in (nI i) 16 := vp_in_nI (by omega) (by decide)
      have k27 : figM T i c = true → J 27 0 0 [some (.ref 117), some (.int (nI i)), some (.int (zb st)), some (.int (zb b0)), some (.int n), some (.int (nI c)), o6, o7, o8, o9, o10] [] (st_h z1) := by
        intro hf
        refine ri_go hJ [32] 90 27 rfl ?_
        refine ⟨w0, ?_⟩
        have := aloop hf (T 7 0 + 1) (T 6 0) (by omega) (Nat.le_refl _) (by omega) z1 n (ha0 z1 n c hc hI) o7 o8 o9 o10
        rw [← (hR 0 (by decide)).1] at this
        exact this
      refine ri_go hJ [211, 27] 90 7 rfl ?_
      refine ⟨fun q => absurd q (nI_ge (a := c) (b := 13) (by omega) (by decide)), fun _ => ⟨vp_in_nI (by omega) (by decide), fun q => k211 z1 n (hc1 z1 n c hc hI ?_) _ _ _ _ _, fun q => ⟨vi, fun q2 => k27 ?_, fun q2 => ⟨vi, fun q3 => k211 z1 n (hc1 z1 n c hc hI ?_) _ _ _ _ _, fun q3 => k27 ?_⟩⟩⟩⟩
      · have q : z1.2.1 110 (nI c).toNatClampNeg = 0 := q
        rw [es, nk_eq (k := 0) (b := 0) rfl (by omega) (by decide)] at q
        unfold figM sty
        rw [q]; rfl
      · have q : ¬ z1.2.1 110 (nI c).toNatClampNeg = 0 := q
        rw [es, nk_eq (k := 0) (b := 0) rfl (by omega) (by decide)] at q
        have q2 : z1.2.1 107 (nI i).toNatClampNeg = -2 := q2
        rw [ef, nD_none (by omega)] at q2
        unfold figM sty
        rw [q2, show T 4 c = 1 by omega]; rfl
      · have q2 : ¬ z1.2.1 107 (nI i).toNatClampNeg = -2 := q2
        rw [ef, nD_none (by omega)] at q2
        have q3 : ¬ z1.2.1 107 (nI i).toNatClampNeg = nI c := q3
        rw [ef, show nD (T 1 i) = nI (T 1 i - 1) from if_neg q2, nn_eq (by omega) (by omega)] at q3
        unfold figM
        rw [ne_b q2, ne_b (show ¬ T 1 i = c + 1 by omega)]; simp
      · have q : ¬ z1.2.1 110 (nI c).toNatClampNeg = 0 := q
        rw [es, nk_eq (k := 0) (b := 0) rfl (by omega) (by decide)] at q
        have q2 : ¬ z1.2.1 107 (nI i).toNatClampNeg = -2 := q2
        rw [ef, nD_none (by omega)] at q2
        have q3 : z1.2.1 107 (nI i).toNatClampNeg = nI c := Decidable.not_not.mp q3
        rw [ef, show nD (T 1 i) = nI (T 1 i - 1) from if_neg q2, nn_eq (by omega) (by omega)] at q3
        unfold figM sty
        rw [eq_b (show T 1 i = c + 1 by omega), show T 4 c = 1 by omega]; simp
  refine ri_run_ok hJ [7] 90 0 0 0 _ _ _ ?_
  exact cloop 13 0 rfl (fs z 101 32 0) 0 hst none none none none none
