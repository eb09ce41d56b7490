/-! each side leaves the other's cells alone -/
theorem CI_Y {z z' : st_T} {T : tT} {Q : tQ} (h : CI z T Q) (hm : md mdY z z') : CI z' T Q := by
  obtain ⟨hW, hQ, hS, hR, hF, hO⟩ := h
  refine ⟨hW, hQ, RS_md hS hm (by decide), RH_md hR hm (by decide), ?_, RO_mq hO hm.1 (by decide) (by decide) (by decide)⟩
  rcases hF with q | ⟨q, hB⟩
  · exact Or.inl ((congrFun (hm.1 21 (by decide)).1 3).trans q)
  · exact Or.inr ⟨(congrFun (hm.1 21 (by decide)).1 3).trans q, TB_md hW.1.2 hB hm.1 (by decide)⟩
theorem MI_X {z z' : st_T} {T : tT} {Q : tQ} (h : MI z T Q) (hm : mq mdX z z') : MI z' T Q := by
  have e : ∀ p, 101 ≤ p → z'.1 p = z.1 p ∧ z'.2.1 p = z.2.1 p := fun p hp => hm p (fun q => by have := List.mem_range.mp q; omega)
  obtain ⟨hM, hQ⟩ := h
  refine ⟨?_, ?_⟩
  · unfold RM at hM ⊢
    rw [(e 101 (by decide)).1, (e 102 (by decide)).2, (e 103 (by decide)).2, (e 104 (by decide)).2, (e 105 (by decide)).2, (e 106 (by decide)).2, (e 107 (by decide)).2, (e 108 (by decide)).2, (e 109 (by decide)).2, (e 110 (by decide)).2, (e 111 (by decide)).2, (e 112 (by decide)).2, (e 113 (by decide)).2]
    exact hM
  · unfold RQ at hQ ⊢
    rw [(e 101 (by decide)).1, (e 124 (by decide)).2, (e 125 (by decide)).2, (e 126 (by decide)).2]
    exact hQ
