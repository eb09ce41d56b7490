/-! THE REFERENCE: solve -/
theorem RQ_of {z : st_T} {T : tT} {L : List (Nat × (Nat → Nat))} {B : Bool} (h1 : z.1 101 26 = nI L.length) (h2 : z.1 101 30 = zb (!B)) (hk : ∀ (k : Nat) (a : Nat × (Nat → Nat)), L[k]? = some a → z.2.1 126 k = nI a.1 ∧ ∀ i, i < T 8 2 → (∀ v, v < 4 → z.2.1 124 (64 * k + (4 * i + v)) = nI (pit (a.2 i) v)) ∧ z.2.1 125 (16 * k + i) = nI (chd (a.2 i))) : RQ z T (L, B) := ⟨h1, fun _ => h2, hk⟩
theorem MO_mm2 {z z' : st_T} {T : tT} {L : List (Nat × (Nat → Nat))} {B : Bool} {qs ps : List Nat} {s : Int32 × tT × tQ} {v : Int32} (e : s = (v, T, (L, B))) (hR : RM z' T) (hQ : RQ z' T (L, B)) (hm : mm qs ps z z') (hp : ∀ p ∈ ps, p ∈ mdY) : MO z s (some (.int v)) (st_h z') := MO_mm e ⟨hR, hQ⟩ hm hp
set_option maxHeartbeats 1000000 in
theorem e10_solve (l : Launch) (z : st_T) (T : tT) (Q : tQ) (hW : TW T) (hI : MI z T Q) (b : Int32) : ri_Ev l y10_solve w10_solve r10_solve 0 0 [.ref 117, .int b] (st_h z) (MO z (sp_solve T Q b)) := by
  have hI0 := MI_0 hI
  have hn := hW.1
  refine ri_ev (t10_solve l _) rfl rfl rfl (Nat.le_of_ble_eq_true rfl) rfl (z10_solve l _) (fun J hJ => ?_)
  refine ri_run_ok hJ [23] 90 0 0 0 _ _ _ ?_
  refine ⟨_, e10_inI l (st_h (m0 z)) b 0 100 rfl rfl, ?_⟩
  rintro r h' ⟨rfl, rfl⟩
  refine ⟨fun c1 => ?_, fun c => MO_same hI (by unfold sp_solve; rw [zb_0.mp (Decidable.not_not.mp c)]; rfl)⟩
  have b1 := zb_1.mp c1
  obtain ⟨n1, n2⟩ := nt_le (m := 100) (by decide) b1
  have hmz : mm [0, 26] [] z (fs (m0 z) 101 26 0) := mm_tr (mm_fs (by decide)) (mm_fs (by decide))
  have hM1 : RM (fs (m0 z) 101 26 0) T := RM_mm hI.1 hmz (by decide) (by decide)
  refine ⟨_, e10_findAll l (fs (m0 z) 101 26 0) T hW hM1, ?_⟩
  rintro r h' ⟨z1, rfl, rfl, hm1, hA1⟩
  have hq1 : mm [0, 26, 30, 32] [114, 115, 116, 117, 118, 119, 120, 121, 122, 124, 125, 126, 127, 128, 129] z z1 := mm_tr (mm_mo hmz (by decide) (by decide)) (mm_mo hm1 (by decide) (by decide))
  have hR1 : RM z1 T := RM_mm hI.1 hq1 (by decide) (by decide)
  refine ⟨fun c2 => ?_, fun c2 => ?_⟩
  · have ho : ovf T = false := by
      cases e : ovf T with
      | false => rfl
      | true => rw [e] at c2; exact absurd rfl c2
    have hA := hA1 ho
    have h4 := ovf_few ho
    have hC : ∀ i (s x : Nat), (stL T i)[s]? = some x → CK x := fun i s x h => okS_CK (stL_at h)
    have es : sp_solve T Q b = (nI (rowC T (nt b)).length, T, (rowC T (nt b), lefT T (stL T) (nt b))) := by unfold sp_solve; rw [b1, ho]; rfl
    have eg := e10_goBack l z1 T hW hR1 (stL T) (beam := nt b) n1 hA h4 hC
    rw [n2] at eg
    refine ⟨_, eg, ?_⟩
    rintro r h' ⟨rfl, z2, rfl, hG2, hm2⟩
    have hq2 : mm [0, 26, 30, 32] [114, 115, 116, 117, 118, 119, 120, 121, 122, 124, 125, 126, 127, 128, 129] z (fs z2 101 30 (zb (!lefT T (stL T) (nt b)))) := mm_tr hq1 (mm_tr (mm_mo hm2 (by decide) (by decide)) (mm_fs (by decide)))
    have hR2 : RM (fs z2 101 30 (zb (!lefT T (stL T) (nt b)))) T := RM_mm hI.1 hq2 (by decide) (by decide)
    have k24 : J 24 0 0 [some (.ref 117), some (.int b)] [] (st_h (fs z2 101 30 (zb (!lefT T (stL T) (nt b))))) := by
      refine ri_go hJ [] 90 24 rfl ?_
      refine ⟨_, e10_takeRows l (fs z2 101 30 (zb (!lefT T (stL T) (nt b)))) T hW hR2 (stL T) (beam := nt b) (fun i hi => ⟨?_, MS_mm (hA i hi).2 (hm2.1 114 (by decide)) (hm2.1 115 (by decide)) (hm2.1 116 (by decide))⟩) h4 hG2, ?_⟩
      · show z2.2.1 117 i = _
        rw [hm2.1 117 (by decide)]; exact (hA i hi).1
      · rintro r h' ⟨rfl, z3, rfl, r1, r2, r3, hm3⟩
        have hq3 : mm [0, 26, 30, 32] [114, 115, 116, 117, 118, 119, 120, 121, 122, 124, 125, 126, 127, 128, 129] z z3 := mm_tr hq2 (mm_mo hm3 (by decide) (by decide))
        refine MO_mm2 (v := z3.1 101 26) (L := rowC T (nt b)) (B := lefT T (stL T) (nt b)) ?_ (RM_mm hI.1 hq3 (by decide) (by decide)) (RQ_of (L := rowC T (nt b)) ?_ ?_ (fun k a ha => ?_)) hq3 (by decide)
        · rw [es, r1, rowC_len]
        · rw [r1, rowC_len]
        · rw [hm3.2.1 30 (by decide), fs_self]
        · obtain ⟨a', ha', e1, e2⟩ := rowC_at ha
          obtain ⟨g1, g2⟩ := r3 k a' ha'
          refine ⟨by rw [e1]; exact g1, fun i hi => ?_⟩
          rw [e2]
          exact g2 i hi
    have k23 : ∀ x : Bool, x = (!lefT T (stL T) (nt b)) → J 23 0 0 [some (.ref 117), some (.int b)] [.int (zb x), .ref 117] (st_h z2) := by
      intro x hx
      rw [← hx] at k24
      refine ri_go hJ [24] 90 23 rfl ?_
      cases x with
      | true => exact k24
      | false => exact k24
    exact k23 _ rfl
  · have ho : ovf T = true := by
      cases e : ovf T with
      | true => rfl
      | false => rw [e] at c2; exact absurd (by decide) c2
    refine MO_mm (T := T) (Q := Q0) ?_ ⟨hR1, ?_, fun q => absurd rfl q, fun k a h => by cases h⟩ hq1 (by decide)
    · unfold sp_solve; rw [b1, ho]; rfl
    · rw [hm1.2.1 26 (by decide), fs_self]; rfl
