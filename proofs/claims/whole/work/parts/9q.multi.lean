/-! multianewarray -/
/-- an array of int arrays, and these -/
def i_mul2 (n kd : Nat) (RC RS : Nat) : ri_S := fun k U V L st h => match st with
  | .int y :: .int x :: r => ¬ x < 0 ∧ ¬ y < 0 ∧ bif Nat.ble (x.toNatClampNeg * 4) 536870912 && (Nat.ble (y.toNatClampNeg * 4) 536870912 && (Nat.ble (U + (1 + x.toNatClampNeg)) RC && Nat.ble (V + (x.toNatClampNeg + x.toNatClampNeg * y.toNatClampNeg)) RS)) then k n (U + 1 + x.toNatClampNeg) (V + x.toNatClampNeg + x.toNatClampNeg * y.toNatClampNeg) L (.ref (16 + h.length) :: r) (h ++ (.inl (kd, x.toNatClampNeg, .inr (fun j => bif Nat.blt j x.toNatClampNeg then some (16 + h.length + 1 + j) else none)) :: List.replicate x.toNatClampNeg (.inl (0, y.toNatClampNeg, .inl (fun _ => 0))))) else False
  | _ => False
theorem outer_arrV (c : ClassId) (N h0 : Nat) : Jvm.Free.Multi.outerC c N h0 N = arrV c N (fun j => if j < N then .ref (h0 + 1 + j) else .null) := by
  obtain ⟨a, b, d⟩ := Jvm.Free.Multi.outerC_facts c N h0 N
  obtain ⟨e, f⟩ := Jvm.Free.Multi.outerC_plain c N h0 N
  have hs : (Jvm.Free.Multi.outerC c N h0 N).slots = Array.ofFn (fun j : Fin N => (if (j : Nat) < N then Value.ref (h0 + 1 + j) else .null)) := by
    apply Array.ext_getElem?
    intro i
    by_cases hi : i < N
    · rw [Jvm.Free.Multi.outerC_slot c N h0 N i hi]
      simp [hi]
    · rw [Array.getElem?_eq_none (by rw [d]; omega), Array.getElem?_eq_none (by simp; omega)]
  unfold arrV
  generalize Jvm.Free.Multi.outerC c N h0 N = X at a b e f hs
  cases X
  simp only at a b e f hs
  subst a b e f hs
  rfl
theorem inner_arrV (c : ClassId) (M : Nat) : Jvm.Free.Multi.innerC c M (.int 0) = arrV c M (fun _ => .int 0) := by
  unfold Jvm.Free.Multi.innerC arrV
  congr 1
  apply Array.ext
  · simp
  · intro i h1 h2
    simp
section RIM
variable {p : Program} {l : Launch} {e : Env} {R : Room} {s : State} {m : MethodId} {args : Array Value} {below : List Frame} {meth : Method} {c : Code} {Q : State → Prop} {cc : ByteArray} {nL : Nat} {Ts : List Cond} {own : String} {D : va_G} {ka : Nat → ClassId} {sa : Nat → Nat} {base : Nat} {pf : Nat → Nat} {i n t : Nat}
theorem s_multi (X : ri_X p s m args c cc nL Ts own D ka sa base) {ix : Nat} (hcl : Cond.classLink own ix "[[I" ∈ Ts) (harr : Cond.arrayClass .int ∈ Ts) (hd : decode cc (pf i) = .ok (.multianewarray ix 2, 4)) (hn : pf n = pf i + 4) : ri_snd (ri_W p l e R s m args below meth c D ka sa base nL Q pf) i (i_mul2 n 3 R.cells R.slots) := by
  intro k hk U V L st h hf
  unfold i_mul2 at hf
  split at hf
  · rename_i y x r
    obtain ⟨hx, hy, hf⟩ := hf
    replace hf := ri_bif hf; obtain ⟨hB, hf⟩ := hf
    replace hB := ri_and hB; obtain ⟨h0, hB⟩ := hB
    replace hB := ri_and hB; obtain ⟨h1, hB⟩ := hB
    obtain ⟨h2, h3⟩ := ri_and hB
    have h0 := Nat.le_of_ble_eq_true h0
    have h1 := Nat.le_of_ble_eq_true h1
    have h2 := Nat.le_of_ble_eq_true h2
    have h3 := Nat.le_of_ble_eq_true h3
    intro H locs ls hH hS hl
    intro S hT XS
    obtain ⟨vm₁, cA, comp, hWm, hfA, hfC, -, -, X1, step⟩ := XS.multianewarray2K (own := own) (index := ix) (ty := .int) (g := F0 m (pf i) ls (.int y :: .int x :: r.map (ri_v sa base))) (n := x) (k := y) (rest := r.map (ri_v sa base)) X.1 X.2.2.2.1 (X.2.2.2.2.1 _ hcl) X.2.2.2.2.2.2.2.1.2 (X.2.2.2.2.1 _ harr) rfl (by rw [X.2.1]; exact hd) rfl hx hy h0 h1 (by omega) rfl rfl h2 h3
    have hka : cA = ka 3 := Option.some.inj (hfA.symm.trans (X.2.2.2.2.2.1.2 3 _ (ri_tys_get (k := 3) rfl)).2)
    have hk0 : comp = ka 0 := Option.some.inj (hfC.symm.trans (X.2.2.2.2.2.1.2 0 _ (ri_tys_get (k := 0) rfl)).2)
    subst hka hk0
    have hsz : (S.setVm vm₁).heap.size = base + h.length := by
      show S.heap.size = _
      rw [hT]; exact hH.2
    obtain ⟨f1, f2, -, -⟩ := Jvm.Free.Multi.fill_facts (S.setVm vm₁) (ka 3) (ka 0) x.toNatClampNeg y.toNatClampNeg (.int 0) x.toNatClampNeg
    have f3 := fun j => Jvm.Free.Multi.fill_inner (S.setVm vm₁) (ka 3) (ka 0) x.toNatClampNeg y.toNatClampNeg (.int 0) x.toNatClampNeg j
    have f4 := fun a ha => Jvm.Free.Multi.fill_old (S.setVm vm₁) (ka 3) (ka 0) x.toNatClampNeg y.toNatClampNeg (.int 0) (a := a) ha x.toNatClampNeg
    rw [hsz] at f1 f2
    have hle : s.heap.size ≤ base + h.length := by rw [← hH.2]; exact hS.1
    have hHn : ri_H D ka sa base (h ++ (.inl (3, x.toNatClampNeg, .inr (fun j => bif Nat.blt j x.toNatClampNeg then some (16 + h.length + 1 + j) else none)) :: List.replicate x.toNatClampNeg (.inl (0, y.toNatClampNeg, .inl (fun _ => 0))))) (Jvm.Free.Multi.fill (S.setVm vm₁) (ka 3) (ka 0) x.toNatClampNeg y.toNatClampNeg (.int 0) x.toNatClampNeg).heap := by
      refine ⟨fun q w hq => ?_, ?_⟩
      · rw [ri_w, List.getElem?_mapIdx, Option.map_eq_some_iff] at hq
        obtain ⟨ec, hec, rfl⟩ := hq
        rcases Nat.lt_trichotomy q h.length with hlt | heq | hgt
        · rw [List.getElem?_append_left hlt] at hec
          refine (hH.1 q _ (ri_w_get hec)).kept ?_
          rw [f4 (base + q) (by rw [hsz]; exact Nat.add_lt_add_left hlt base)]
          show S.heap[base + q]? = _
          rw [hT]
        · rw [heq, List.getElem?_append_right (Nat.le_refl _), Nat.sub_self] at hec
          cases hec
          rw [heq]
          show _ = some (vp_cell (ka 3) (x.toNatClampNeg, .inr (.inr (.inr (.inr (fun j => (bif Nat.blt j x.toNatClampNeg then some (16 + h.length + 1 + j) else none).map (ri_ad sa base)))))))
          rw [f2, outer_arrV, vp_cell_q]
          refine congrArg some (congrArg (arrV (ka 3) x.toNatClampNeg) (funext fun j => ?_))
          by_cases hj : j < x.toNatClampNeg
          · rw [if_pos hj, show Nat.blt j x.toNatClampNeg = true from Nat.ble_eq_true_of_le hj]
            show _ = va_rf (some (ri_ad sa base (16 + h.length + 1 + j)))
            rw [show 16 + h.length + 1 + j = 16 + (h.length + 1 + j) by omega, ri_ad_new]
            show Value.ref (base + h.length + 1 + j) = Value.ref (base + (h.length + 1 + j))
            rw [show base + h.length + 1 + j = base + (h.length + 1 + j) by omega]
          · have hbf : Nat.blt j x.toNatClampNeg = false := Bool.eq_false_iff.mpr (fun q => hj (Nat.le_of_ble_eq_true q))
            rw [if_neg hj, hbf]; rfl
        · obtain ⟨j, hj⟩ : ∃ j, q = h.length + 1 + j := ⟨q - h.length - 1, by omega⟩
          subst hj
          rw [List.getElem?_append_right (by omega), show h.length + 1 + j - h.length = j + 1 by omega, List.getElem?_cons_succ] at hec
          obtain ⟨hjl, hje⟩ := List.getElem?_eq_some_iff.mp hec
          rw [List.length_replicate] at hjl
          rw [List.getElem_replicate] at hje
          subst hje
          show _ = some (vp_cell (ka 0) (y.toNatClampNeg, .inl (fun _ => 0)))
          rw [vp_cell_i, ← inner_arrV]
          have := f3 j hjl
          rw [hsz] at this
          rw [show base + (h.length + 1 + j) = base + h.length + 1 + j by omega]
          exact this
      · rw [f1, List.length_append, List.length_cons, List.length_replicate]; omega
    have hSn : va_S (fun q => base ≤ q) s.heap (Jvm.Free.Multi.fill (S.setVm vm₁) (ka 3) (ka 0) x.toNatClampNeg y.toNatClampNeg (.int 0) x.toNatClampNeg).heap (locs ++ (List.range x.toNatClampNeg).map fun j => ⟨S.heap.size, j⟩) := by
      refine ⟨?_, fun q h1 h2 => ?_, fun lo hlo => ?_⟩
      · rw [f1]
        exact Nat.le_trans hle (by omega)
      · rw [f4 q (by rw [hsz]; exact Nat.lt_of_lt_of_le h1 hle)]
        show S.heap[q]? = _
        rw [hT]; exact hS.2.1 q h1 h2
      · rcases List.mem_append.mp hlo with hlo | hlo
        · exact hS.2.2 lo hlo
        · obtain ⟨j, -, rfl⟩ := List.mem_map.mp hlo
          show base ≤ S.heap.size
          rw [hT, hH.2]; omega
    have hw := hk _ _ _ _ _ _ hf _ _ ls hHn hSn hl
    rw [hn] at hw
    obtain ⟨t', a, b⟩ := hw _ rfl X1
    refine ⟨t', step t' ?_, b⟩
    have er : S.heap.size = ri_ad sa base (16 + h.length) := by rw [ri_ad_new, hT, hH.2]
    rw [er]
    exact a
  · exact hf.elim
end RIM
