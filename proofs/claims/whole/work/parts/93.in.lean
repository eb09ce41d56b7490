/-! THE REFERENCE: in, over longs -/
def lcI (x y : Int64) : Int32 := if x > y then 1 else if x == y then 0 else -1
theorem lcI_lt {x y : Int64} : lcI x y < 0 ↔ x < y := by
  unfold lcI
  by_cases h : x > y
  · rw [if_pos h]
    have h1 : y.toInt < x.toInt := Int64.lt_iff_toInt_lt.mp h
    exact ⟨fun q => absurd q (by decide), fun q => by have := Int64.lt_iff_toInt_lt.mp q; omega⟩
  · rw [if_neg h]
    have h1 : ¬ y.toInt < x.toInt := fun q => h (Int64.lt_iff_toInt_lt.mpr q)
    by_cases e : x = y
    · rw [if_pos (by simpa using e)]
      exact ⟨fun q => absurd q (by decide), fun q => by rw [e] at q; have := Int64.lt_iff_toInt_lt.mp q; omega⟩
    · rw [if_neg (by simpa using e)]
      refine ⟨fun _ => Int64.lt_iff_toInt_lt.mpr ?_, fun _ => by decide⟩
      have : ¬ x.toInt = y.toInt := fun q => e (Int64.toInt_inj.mp q)
      omega
theorem lcI_gt {x y : Int64} : 0 < lcI x y ↔ y < x := by
  unfold lcI
  by_cases h : x > y
  · rw [if_pos h]; exact ⟨fun _ => h, fun _ => by decide⟩
  · rw [if_neg h]
    by_cases e : x = y
    · rw [if_pos (by simpa using e)]; exact ⟨fun q => absurd q (by decide), fun q => absurd q h⟩
    · rw [if_neg (by simpa using e)]; exact ⟨fun q => absurd q (by decide), fun q => absurd q h⟩
section RLC
variable {p : Program} {l : Launch} {e : Env} {R : Room} {s : State} {m : MethodId} {args : Array Value} {below : List Frame} {meth : Method} {c : Code} {H : Heap} {locs : List Loc} {cells slots : Nat} {Q : State → Prop}
variable {cc : ByteArray} {pc : Nat} {ls : Array Slot} {rest : List Value}
theorem ri_lcmp (hexec : p.tables.exec = Jvm.exec) (hb : c.code = cc) {x y : Int64} (hdg : decode cc pc = .ok (.lcmp, 1))
    (k : W p l e R s m args below meth c H locs cells slots Q (F0 m (pc + 1) ls (.int (lcI x y) :: rest))) : W p l e R s m args below meth c H locs cells slots Q (F0 m pc ls (.long y :: .long x :: rest)) := by
  intro T hT X
  obtain ⟨t, a, b⟩ := k T hT X
  refine ⟨t, ?_, b⟩
  unfold lcI at a
  by_cases h : x > y
  · rw [if_pos h] at a
    jvm_step X.here [X.here.top, hexec, hb, hdg, h]
    exact a
  · rw [if_neg h] at a
    by_cases q : (x == y) = true
    · rw [if_pos q] at a
      jvm_step X.here [X.here.top, hexec, hb, hdg, h]
      rw [if_pos (by simpa using q)]
      exact a
    · rw [if_neg q] at a
      jvm_step X.here [X.here.top, hexec, hb, hdg, h]
      rw [if_neg (by simpa using q)]
      exact a
end RLC
theorem e10_in (l : Launch) (h : List ri_C) (x a b : Int64) : ri_Ev l y10_in w10_in r10_in 0 0 [.long x, .long a, .long b] h (ri_is (zb (decide (a ≤ x) && decide (x ≤ b))) h) := by
  intro D ka sa base
  refine Met.ofW (cc := c10_in) (maxL := 6) (ret := some .boolean) rfl rfl ?_
  intro p e s m args below meth c s₁ B hml hv
  obtain ⟨rfl, henv, hH⟩ := hv
  have hl := lv_entry (([.long x, .long a, .long b] : List Value).map (ri_v sa base)) (n := 6) (by show 6 ≤ 6; decide)
  rw [lg_entry_eq]
  generalize (lg_sl (([.long x, .long a, .long b] : List Value).map (ri_v sa base)) ++ List.replicate (6 - (lg_sl (([.long x, .long a, .long b] : List Value).map (ri_v sa base))).length) Slot.unset).toArray = ls at hl ⊢
  have l0 : ls[0]? = some (.val (.long x)) := hl.2.2 (0, .long x) (by show _ ∈ [(0, Value.long x), (2, Value.long a), (4, Value.long b)]; simp)
  have l2 : ls[2]? = some (.val (.long a)) := hl.2.2 (2, .long a) (by show _ ∈ [(0, Value.long x), (2, Value.long a), (4, Value.long b)]; simp)
  have l4 : ls[4]? = some (.val (.long b)) := hl.2.2 (4, .long b) (by show _ ∈ [(0, Value.long x), (2, Value.long a), (4, Value.long b)]; simp)
  have hS : va_S (fun q => base ≤ q) s.heap s.heap [] := va_S.rf
  have fin : ∀ v : Int32, narrow .boolean (.int v) = .int v → ri_is (zb (decide (a ≤ x) && decide (x ≤ b))) h (some (.int v)) h → W p l e (headSpec w10_in r10_in).room s m (([.long x, .long a, .long b] : List Value).map (ri_v sa base)).toArray below meth c s.heap [] 0 0 (MQ below (ri_Qc D ka sa base (ri_is (zb (decide (a ≤ x) && decide (x ≤ b))) h)) (([.long x, .long a, .long b] : List Value).map (ri_v sa base)).toArray s 0 0 (fun q => base ≤ q)) (F0 m 18 ls [.int v]) := fun v hz hf => W.zret B.exec B.bytes B.returns hz (fun t ht hW => ⟨⟨some (.int v), h, hf, rfl, by rw [ht]; exact hH⟩, hS.F ht⟩) hS.2.2 (by decide +kernel) B.notSynchronized
  have k17 : (decide (a ≤ x) && decide (x ≤ b)) = false → W p l e (headSpec w10_in r10_in).room s m (([.long x, .long a, .long b] : List Value).map (ri_v sa base)).toArray below meth c s.heap [] 0 0 (MQ below (ri_Qc D ka sa base (ri_is (zb (decide (a ≤ x) && decide (x ≤ b))) h)) (([.long x, .long a, .long b] : List Value).map (ri_v sa base)).toArray s 0 0 (fun q => base ≤ q)) (F0 m 17 ls []) := fun hb => by
    refine lv_iconst B.exec B.bytes (n := 0) (v := 0) (by decide +kernel) rfl ?_
    exact fin 0 rfl ⟨by rw [hb]; rfl, rfl⟩
  refine lv_lload_n B.exec B.bytes (k := 0) (i := 0) (x := x) (by decide +kernel) rfl l0 ?_
  refine lv_lload_n B.exec B.bytes (k := 2) (i := 2) (x := a) (by decide +kernel) rfl l2 ?_
  refine ri_lcmp B.exec B.bytes (by decide +kernel) ?_
  refine lv_if_lt B.exec B.bytes (off := 14) (tgt := 17) (by decide +kernel) rfl (fun c1 => k17 ?_) (fun c1 => ?_)
  · have c1 := lcI_lt.mp c1
    rw [decide_eq_false (fun q => by have h1 := Int64.lt_iff_toInt_lt.mp c1; have h2 := Int64.le_iff_toInt_le.mp q; omega)]; rfl
  · have d1 : a ≤ x := by
      have : ¬ x < a := fun q => c1 (lcI_lt.mpr q)
      rw [Int64.lt_iff_toInt_lt] at this
      rw [Int64.le_iff_toInt_le]; omega
    refine lv_lload_n B.exec B.bytes (k := 0) (i := 0) (x := x) (by decide +kernel) rfl l0 ?_
    refine lv_lload B.exec B.bytes (i := 4) (x := b) (by decide +kernel) l4 ?_
    refine ri_lcmp B.exec B.bytes (by decide +kernel) ?_
    refine lv_if_gt B.exec B.bytes (off := 7) (tgt := 17) (by decide +kernel) rfl (fun c2 => k17 ?_) (fun c2 => ?_)
    · have c2 := lcI_gt.mp c2
      rw [decide_eq_false (p := x ≤ b) (fun q => by have h1 := Int64.lt_iff_toInt_lt.mp c2; have h2 := Int64.le_iff_toInt_le.mp q; omega), Bool.and_false]
    · have d2 : x ≤ b := by
        have : ¬ b < x := fun q => c2 (lcI_gt.mpr q)
        rw [Int64.lt_iff_toInt_lt] at this
        rw [Int64.le_iff_toInt_le]; omega
      refine lv_iconst B.exec B.bytes (n := 1) (v := 1) (by decide +kernel) rfl ?_
      refine lv_goto B.exec B.bytes (off := 4) (tgt := 18) (by decide +kernel) rfl ?_
      exact fin 1 rfl ⟨by rw [decide_eq_true d1, decide_eq_true d2]; rfl, rfl⟩
theorem i64_le {a b : Int32} : a.toInt64 ≤ b.toInt64 ↔ a.toInt ≤ b.toInt := by
  rw [Int64.le_iff_toInt_le, Int32.toInt_toInt64, Int32.toInt_toInt64]
theorem e10_inI (l : Launch) (h : List ri_C) (x a b : Int32) {lo hi : Int64} (ea : lo = a.toInt64) (eb : hi = b.toInt64) : ri_Ev l y10_in w10_in r10_in 0 0 [.long x.toInt64, .long lo, .long hi] h (ri_is (zb (bt a x b)) h) := by
  have e := e10_in l h x.toInt64 lo hi
  have q : (decide (lo ≤ x.toInt64) && decide (x.toInt64 ≤ hi)) = bt a x b := by
    unfold bt
    rw [ea, eb]
    congr 1
    · exact decide_eq_decide.mpr (i64_le.trans i_leI.symm)
    · exact decide_eq_decide.mpr (i64_le.trans i_leI.symm)
  rw [q] at e
  exact e
