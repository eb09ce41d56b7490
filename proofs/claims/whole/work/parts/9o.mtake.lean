/-! THE REFERENCE: takeRows' run; solve -/
theorem gth_cons (W : Nat → wy) (t : Nat) (A : List Nat) (acc : wy) : gth W (t :: A) acc = gth W A (rstF 0 t 0 (W t) acc) := rfl
theorem gth_nil (W : Nat → wy) (acc : wy) : gth W [] acc = acc := rfl
/-- row r stands -/
def RR (z : st_T) (x : Nat → Nat) (r n : Nat) : Prop := ∀ i, i < n → (∀ v, v < 4 → z.2.1 124 (64 * r + (4 * i + v)) = nI (pit (x i) v)) ∧ z.2.1 125 (16 * r + i) = nI (chd (x i))
set_option maxHeartbeats 8000000 in
theorem e10_takeRows (l : Launch) (z : st_T) (T : tT) (hW : TW T) (hM : RM z T) (X : Nat → List Nat) {beam : Nat} (hA : ∀ i, i < T 8 2 → z.2.1 117 i = nI (X i).length ∧ MS z T i (X i)) (h4 : ∀ i, i < T 8 2 → (X i).length ≤ 400) (hG : ∀ j, j < T 8 2 → GW z T X beam j (X j).length ∧ GK z T X beam j) : ri_Ev l y10_takeRows w10_takeRows r10_takeRows 0 0 [.ref 117] (st_h z) (ri_zx fun z' => z'.1 101 26 = nI (rowL T X beam).length ∧ (rowL T X beam).length ≤ 4 ∧ (∀ (k : Nat) (a : Nat × Nat), (rowL T X beam)[k]? = some a → z'.2.1 126 k = nI a.1 ∧ RR z' (rcd X (plW T X beam) a.2) k (T 8 2)) ∧ mm [26] [124, 125, 126, 128, 129] z z') := by
  refine ri_ev (t10_takeRows l _) rfl rfl rfl (Nat.le_of_ble_eq_true rfl) rfl (z10_takeRows l _) (fun J hJ => ?_)
  have hn := hW.1
  have hWO := fun i hi s hs => plW_WO hW (X := X) (beam := beam) h4 (T 8 2 - i) i (by omega) hi s hs
  have m1 : ∀ z1, mm [26] [124, 125, 126, 128, 129] z z1 → RM z1 T ∧ (∀ i, i < T 8 2 → z1.2.1 117 i = nI (X i).length ∧ MS z1 T i (X i)) ∧ (∀ j, j < T 8 2 → GW z1 T X beam j (X j).length ∧ GK z1 T X beam j) := by
    intro z1 hm
    refine ⟨RM_mm hM hm (by decide) (by decide), fun i hi => ⟨?_, MS_mm (hA i hi).2 (hm.1 114 (by decide)) (hm.1 115 (by decide)) (hm.1 116 (by decide))⟩, fun j hj => ⟨fun s hs => WM_mm ((hG j hj).1 s hs) (hm.1 118 (by decide)) (hm.1 119 (by decide)) (hm.1 120 (by decide)) (hm.1 121 (by decide)), fun s hs => ?_⟩⟩
    · rw [hm.1 117 (by decide)]; exact (hA i hi).1
    · rw [hm.1 122 (by decide)]; exact (hG j hj).2 s hs
  have hrow : rowL T X beam = gth (plW T X beam 0) ((List.range' 0 ((X 0).length - 0)).filter (alv beam (plW T X beam 0) (X 0).length)) [] := by
    unfold rowL plA
    rw [mkA_rng]
  have l0 := h4 0 (by omega)
  have v0 : vp_in 0 16 := vp_in_nI (n := 0) (by decide) (by decide)
  -- the rows, one by one
  have rows : WO (321000 * T 8 2) (rowL T X beam) → ∀ m r, m + r = (rowL T X beam).length → ∀ z1, TR z1 (rowL T X beam) → mm [26] [124, 125, 126, 128, 129] z z1 → (∀ (k : Nat) (a : Nat × Nat), (rowL T X beam)[k]? = some a → k < r → RR z1 (rcd X (plW T X beam) a.2) k (T 8 2)) → ∀ o2 o3 o4 o5, J 128 0 0 [some (.ref 117), some (.int (nI r)), o2, o3, o4, o5] [] (st_h z1) := by
    intro hRO m
    have hR4 := hRO.1
    induction m with
    | zero =>
      intro r hr z1 hT hm hRR o2 o3 o4 o5
      refine ri_go hJ [] 90 128 rfl ?_
      refine ⟨fun _ => ⟨rfl, z1, rfl, hT.1, hR4, fun k a ha => ⟨(hT.2 k a ha).1, hRR k a ha (by have := (List.getElem?_eq_some_iff.mp ha).1; omega)⟩, hm⟩, fun q => absurd (show z1.1 101 26 ≤ nI r from ?_) q⟩
      rw [hT.1]; exact nI_le (by omega) (by omega)
    | succ m ih =>
      intro r hr z1 hT hm hRR o2 o3 o4 o5
      have er := nI_1 r
      obtain ⟨a, ha⟩ : ∃ a, (rowL T X beam)[r]? = some a := ⟨_, List.getElem?_eq_getElem (by omega)⟩
      have hVL := lk_VL (row_VL (T := T) (St := X) (beam := beam) hn.1 (List.mem_of_getElem? ha))
      have vr : vp_in (nI r) 4 := vp_in_nI (by omega) (by decide)
      have cr : (nI r).toNatClampNeg = r := cl31 (by omega)
      have hEN := hT.2 r a ha
      -- place by place
      have places : ∀ m' i, m' + i = T 8 2 → ∀ z2, TR z2 (rowL T X beam) → mm [26] [124, 125, 126, 128, 129] z z2 → (∀ (k : Nat) (a : Nat × Nat), (rowL T X beam)[k]? = some a → k < r → RR z2 (rcd X (plW T X beam) a.2) k (T 8 2)) → RR z2 (rcd X (plW T X beam) a.2) r i → ∀ (u w : Int32), (i < T 8 2 → u = nI (400 * i + lkA (plW T X beam) a.2 i / 4) ∧ w = nI (lkA (plW T X beam) a.2 i % 4)) → ∀ o5, J 144 0 0 [some (.ref 117), some (.int (nI r)), some (.int u), some (.int w), some (.int (nI i)), o5] [] (st_h z2) := by
        intro m'
        induction m' with
        | zero =>
          intro i hi z2 hT2 hm2 hRR2 hRi u w huw o5
          obtain ⟨hM2, hA2, hG2⟩ := m1 z2 hm2
          refine ri_go hJ [128] 90 144 rfl ?_
          refine ⟨fun _ => ?_, fun q => absurd (show z2.1 101 7 ≤ nI i from ?_) q⟩
          · have := ih (r + 1) (by omega) z2 hT2 hm2 (fun k b hb hk => by
              by_cases e : k = r
              · subst e
                rw [ha] at hb
                cases hb
                rw [show T 8 2 = i by omega]; exact hRi
              · exact hRR2 k b hb (by omega)) (some (.int u)) (some (.int w)) (some (.int (nI i))) o5
            rw [← er] at this
            exact this
          · rw [hM2.1.2.2]; exact nI_le (by omega) (by omega)
        | succ m' ihp =>
          intro i hi z2 hT2 hm2 hRR2 hRi u w huw o5
          obtain ⟨rfl, rfl⟩ := huw (by omega)
          have hi2 : i < T 8 2 := by omega
          have ei := nI_1 i
          obtain ⟨hM2, hA2, hG2⟩ := m1 z2 hm2
          obtain ⟨va, vb⟩ := hVL i hi2
          have hs := (plA_mem va).1
          have hli := h4 i hi2
          generalize hlk : lkA (plW T X beam) a.2 i = lk at va vb hs
          have hx := rcd_mem (T := T) (St := X) (beam := beam) hn.1 (List.mem_of_getElem? ha) hi2
          rw [hlk] at hx
          have hxE := (hA2 i hi2).2 _ _ hx (by omega)
          generalize hxx : rcd X (plW T X beam) a.2 i = x at hx hxE
          -- voice by voice
          have k175 : ∀ z3, TR z3 (rowL T X beam) → mm [26] [124, 125, 126, 128, 129] z z3 → (∀ (k : Nat) (a : Nat × Nat), (rowL T X beam)[k]? = some a → k < r → RR z3 (rcd X (plW T X beam) a.2) k (T 8 2)) → RR z3 (rcd X (plW T X beam) a.2) r i → (∀ v, v < 4 → z3.2.1 124 (64 * r + (4 * i + v)) = nI (pit x v)) → ∀ o5, J 175 0 0 [some (.ref 117), some (.int (nI r)), some (.int (nI (400 * i + lk / 4))), some (.int (nI (lk % 4))), some (.int (nI i)), o5] [] (st_h z3) := by
            intro z3 hT3 hm3 hRR3 hRi3 hv3 o5
            obtain ⟨hM3, hA3, hG3⟩ := m1 z3 hm3
            have e16 : 16 * nI r + nI i = nI (16 * r + i) := by
              have h : nI 16 * nI r + nI i = nI (16 * r + i) := by rw [pk_mul, nI_add]
              exact h
            have v16 : vp_in (16 * nI r + nI i) 64 := by rw [e16]; exact vp_in_nI (by omega) (by decide)
            have c16 : (16 * nI r + nI i).toNatClampNeg = 16 * r + i := by rw [e16]; exact cl31 (by omega)
            have vs : vp_in (nI (400 * i + lk / 4)) 6400 := vp_in_nI (by omega) (by decide)
            have cs : (nI (400 * i + lk / 4)).toNatClampNeg = 400 * i + lk / 4 := cl31 (by omega)
            have ech : z3.2.1 115 (nI (400 * i + lk / 4)).toNatClampNeg = nI (chd x) := by rw [cs, hm3.1 115 (by decide), ← hm2.1 115 (by decide)]; exact hxE.2.1
            have ew : 4 * nI (400 * i + lk / 4) + nI (lk % 4) = nI (4 * (400 * i + lk / 4) + lk % 4) := ix4d
            have vw : vp_in (4 * nI (400 * i + lk / 4) + nI (lk % 4)) 25600 := by rw [ew]; exact vp_in_nI (by omega) (by decide)
            have cw : (4 * nI (400 * i + lk / 4) + nI (lk % 4)).toNatClampNeg = 4 * (400 * i + lk / 4) + lk % 4 := by rw [ew]; exact cl31 (by omega)
            obtain ⟨b, hb⟩ : ∃ b, (plW T X beam i (lk / 4))[lk % 4]? = some b := ⟨_, List.getElem?_eq_getElem vb⟩
            have hwE := ((hG3 i hi2).1 (lk / 4) hs).2 (lk % 4) b hb
            refine ri_go hJ [144] 90 175 rfl ?_
            refine ⟨vs, v16, vw, vw, ?_⟩
            have key := ihp (i + 1) (by omega) (fa z3 125 (upd (z3.2.1 125) (16 * nI r + nI i).toNatClampNeg (z3.2.1 115 (nI (400 * i + lk / 4)).toNatClampNeg))) ⟨hT3.1, fun j c hc => ?_⟩ (mm_tr hm3 (mm_fa (by decide))) (fun k c hc hk => fun i' hi' => ⟨fun v hv => ?_, ?_⟩) (fun i' hi' => ⟨fun v hv => ?_, ?_⟩) (z3.2.1 119 (4 * nI (400 * i + lk / 4) + nI (lk % 4)).toNatClampNeg) (z3.2.1 120 (4 * nI (400 * i + lk / 4) + nI (lk % 4)).toNatClampNeg) (fun hi1 => ?_) (some (.int (4 * nI (400 * i + lk / 4) + nI (lk % 4))))
            · rw [← ei] at key
              exact key
            · have := hT3.2 j c hc
              refine ⟨?_, ?_, ?_⟩
              · rw [fa_ne _ _ (by decide)]; exact this.1
              · rw [fa_ne _ _ (by decide)]; exact this.2.1
              · rw [fa_ne _ _ (by decide)]; exact this.2.2
            · rw [fa_ne _ _ (by decide)]; exact (hRR3 k c hc hk i' hi').1 v hv
            · rw [fa_self, c16, pk_un (by omega)]; exact (hRR3 k c hc hk i' hi').2
            · rw [fa_ne _ _ (by decide)]
              by_cases e : i' = i
              · subst e
                rw [hxx]; exact hv3 v hv
              · exact (hRi3 i' (by omega)).1 v hv
            · rw [fa_self, c16]
              by_cases e : i' = i
              · subst e
                rw [hxx, pk_us]; exact ech
              · rw [pk_un (by omega)]; exact (hRi3 i' (by omega)).2
            · have hD : Dj T i = 400 * (i + 1) := if_neg (by omega)
              have en : lkA (plW T X beam) a.2 (i + 1) = b.2 := by
                show nxt (plW T X beam i) (lkA (plW T X beam) a.2 i) = b.2
                rw [hlk]
                unfold nxt
                rw [List.getD_eq_getElem?_getD, hb]; rfl
              rw [cw, hwE.2.1, hwE.2.2, en, hD]
              exact ⟨rfl, rfl⟩
          have voices : ∀ n' v, n' + v = 4 → ∀ z3, TR z3 (rowL T X beam) → mm [26] [124, 125, 126, 128, 129] z z3 → (∀ (k : Nat) (a : Nat × Nat), (rowL T X beam)[k]? = some a → k < r → RR z3 (rcd X (plW T X beam) a.2) k (T 8 2)) → RR z3 (rcd X (plW T X beam) a.2) r i → (∀ v', v' < v → z3.2.1 124 (64 * r + (4 * i + v')) = nI (pit x v')) → J 150 0 0 [some (.ref 117), some (.int (nI r)), some (.int (nI (400 * i + lk / 4))), some (.int (nI (lk % 4))), some (.int (nI i)), some (.int (nI v))] [] (st_h z3) := by
            intro n'
            induction n' with
            | zero =>
              intro v hv z3 hT3 hm3 hRR3 hRi3 hv3
              have hv4 : v = 4 := by omega
              subst hv4
              refine ri_go hJ [175] 90 150 rfl ?_
              exact ⟨fun _ => k175 z3 hT3 hm3 hRR3 hRi3 hv3 _, fun c => absurd (by decide) c⟩
            | succ n' ihv =>
              intro v hv z3 hT3 hm3 hRR3 hRi3 hv3
              have ev := nI_1 v
              have e64 : 64 * nI r + 4 * nI i + nI v = nI (64 * r + (4 * i + v)) := by
                have h : nI 64 * nI r + nI 4 * nI i + nI v = nI (64 * r + (4 * i + v)) := by rw [pk_mul, pk_mul, nI_add, nI_add, Nat.add_assoc]
                exact h
              have v64 : vp_in (64 * nI r + 4 * nI i + nI v) 256 := by rw [e64]; exact vp_in_nI (by omega) (by decide)
              have c64 : (64 * nI r + 4 * nI i + nI v).toNatClampNeg = 64 * r + (4 * i + v) := by rw [e64]; exact cl31 (by omega)
              have ep : 4 * nI (400 * i + lk / 4) + nI v = nI (4 * (400 * i + lk / 4) + v) := ix4d
              have vp : vp_in (4 * nI (400 * i + lk / 4) + nI v) 25600 := by rw [ep]; exact vp_in_nI (by omega) (by decide)
              have epv : z3.2.1 114 (4 * nI (400 * i + lk / 4) + nI v).toNatClampNeg = nI (pit x v) := by rw [ep, cl31 (by omega), hm3.1 114 (by decide), ← hm2.1 114 (by decide)]; exact hxE.1 v (by omega)
              refine ri_go hJ [150] 90 150 rfl ?_
              refine ⟨fun c => absurd c (nI_ge (a := v) (b := 4) (by omega) (by decide)), fun _ => ⟨vp, v64, ?_⟩⟩
              have key := ihv (v + 1) (by omega) (fa z3 124 (upd (z3.2.1 124) (64 * nI r + 4 * nI i + nI v).toNatClampNeg (z3.2.1 114 (4 * nI (400 * i + lk / 4) + nI v).toNatClampNeg))) ⟨hT3.1, fun j c hc => ?_⟩ (mm_tr hm3 (mm_fa (by decide))) (fun k c hc hk => fun i' hi' => ⟨fun v' hv' => ?_, ?_⟩) (fun i' hi' => ⟨fun v' hv' => ?_, ?_⟩) (fun v' hv' => ?_)
              · rw [← ev] at key
                exact key
              · have := hT3.2 j c hc
                refine ⟨?_, ?_, ?_⟩
                · rw [fa_ne _ _ (by decide)]; exact this.1
                · rw [fa_ne _ _ (by decide)]; exact this.2.1
                · rw [fa_ne _ _ (by decide)]; exact this.2.2
              · rw [fa_self, c64, pk_un (by omega)]; exact (hRR3 k c hc hk i' hi').1 v' hv'
              · rw [fa_ne _ _ (by decide)]; exact (hRR3 k c hc hk i' hi').2
              · rw [fa_self, c64, pk_un (by omega)]; exact (hRi3 i' hi').1 v' hv'
              · rw [fa_ne _ _ (by decide)]; exact (hRi3 i' hi').2
              · rw [fa_self, c64]
                by_cases e : v' = v
                · rw [e, pk_us]; exact epv
                · rw [pk_un (by omega)]; exact hv3 v' (by omega)
          refine ri_go hJ [150] 90 144 rfl ?_
          refine ⟨fun q => absurd (show z2.1 101 7 ≤ nI i from q) (by rw [hM2.1.2.2]; exact nI_ge (by omega) (by omega)), fun _ => ?_⟩
          exact voices 4 0 rfl z2 hT2 hm2 hRR2 hRi (fun v' hv' => absurd hv' (by omega))
      have k142 : ∀ o4 o5, J 142 0 0 [some (.ref 117), some (.int (nI r)), some (.int (nI (a.2 / 4))), some (.int (nI (a.2 % 4))), o4, o5] [] (st_h z1) := by
        intro o4 o5
        refine ri_go hJ [144] 90 142 rfl ?_
        refine places (T 8 2) 0 rfl z1 hT hm hRR (fun i hi => absurd hi (by omega)) _ _ (fun _ => ⟨?_, rfl⟩) _
        show nI (a.2 / 4) = nI (400 * 0 + a.2 / 4)
        rw [Nat.mul_zero, Nat.zero_add]
      refine ri_go hJ [142] 90 128 rfl ?_
      refine ⟨fun q => absurd (show z1.1 101 26 ≤ nI r from q) (by rw [hT.1]; exact nI_ge (by omega) (by omega)), fun _ => ⟨vr, vr, ?_⟩⟩
      have key := k142 o4 o5
      have q1 : z1.2.1 128 (nI r).toNatClampNeg = nI (a.2 / 4) := by rw [cr]; exact hEN.2.1
      have q2 : z1.2.1 129 (nI r).toNatClampNeg = nI (a.2 % 4) := by rw [cr]; exact hEN.2.2
      rw [← q1, ← q2] at key
      exact key
  -- the best of all
  have gather : ∀ m s, m + s = (X 0).length → ∀ z1 acc, TR z1 acc → WO (321000 * T 8 2) acc → mm [26] [124, 125, 126, 128, 129] z z1 → gth (plW T X beam 0) ((List.range' s ((X 0).length - s)).filter (alv beam (plW T X beam 0) (X 0).length)) acc = rowL T X beam → ∀ o2 o3 o4 o5, J 5 0 0 [some (.ref 117), some (.int (nI s)), o2, o3, o4, o5] [] (st_h z1) := by
    intro m
    induction m with
    | zero =>
      intro s hs z1 acc hT hO hm hfin o2 o3 o4 o5
      obtain ⟨hM1, hA1, hG1⟩ := m1 z1 hm
      have e0 : z1.2.1 117 (0 : Int32).toNatClampNeg = nI (X 0).length := (hA1 0 (by omega)).1
      have hsn : s = (X 0).length := by omega
      subst hsn
      rw [Nat.sub_self] at hfin
      have hfin : acc = rowL T X beam := hfin
      rw [hfin] at hT hO
      refine ri_go hJ [128] 90 5 rfl ?_
      refine ⟨v0, fun _ => rows hO (rowL T X beam).length 0 (by omega) z1 hT hm (fun k a _ hk => absurd hk (by omega)) _ _ _ _, fun q => absurd (show z1.2.1 117 (0 : Int32).toNatClampNeg ≤ nI (X 0).length from ?_) q⟩
      rw [e0]; exact nI_le (Nat.le_refl _) (by omega)
    | succ m ih =>
      intro s hs z1 acc hT hO hm hfin o2 o3 o4 o5
      obtain ⟨hM1, hA1, hG1⟩ := m1 z1 hm
      have e0 : z1.2.1 117 (0 : Int32).toNatClampNeg = nI (X 0).length := (hA1 0 (by omega)).1
      have es := nI_1 s
      have vs : vp_in (nI s) 6400 := vp_in_nI (by omega) (by decide)
      have cs : (nI s).toNatClampNeg = s := cl31 (by omega)
      have hWs := hWO 0 (by omega) s (by omega)
      rw [rng_cons (show s < (X 0).length by omega)] at hfin
      have k124 : ∀ z2 acc', TR z2 acc' → WO (321000 * T 8 2) acc' → mm [26] [124, 125, 126, 128, 129] z z2 → gth (plW T X beam 0) ((List.range' (s + 1) ((X 0).length - (s + 1))).filter (alv beam (plW T X beam 0) (X 0).length)) acc' = rowL T X beam → ∀ o2 o3 o4 o5, J 124 0 0 [some (.ref 117), some (.int (nI s)), o2, o3, o4, o5] [] (st_h z2) := by
        intro z2 acc' h1 h2 h3 h5 o2 o3 o4 o5
        refine ri_go hJ [5] 90 124 rfl ?_
        have := ih (s + 1) (by omega) z2 acc' h1 h2 h3 h5 o2 o3 o4 o5
        rw [← es] at this
        exact this
      have kloop : alv beam (plW T X beam 0) (X 0).length s = true → ∀ n' k, n' + k = (plW T X beam 0 s).length → ∀ z2 acc', TR z2 acc' → WO (321000 * T 8 2) acc' → mm [26] [124, 125, 126, 128, 129] z z2 → rstF 0 s k ((plW T X beam 0 s).drop k) acc' = rstF 0 s 0 (plW T X beam 0 s) acc → ∀ o3 o4 o5, J 13 0 0 [some (.ref 117), some (.int (nI s)), some (.int (nI k)), o3, o4, o5] [] (st_h z2) := by
        intro hal n'
        rw [if_pos hal, gth_cons] at hfin
        induction n' with
        | zero =>
          intro k hk z2 acc' h1 h2 h3 h5 o3 o4 o5
          obtain ⟨hM2, hA2, hG2⟩ := m1 z2 h3
          have ek : z2.2.1 122 (nI s).toNatClampNeg = 1 := by
            rw [cs]
            have := (hG2 0 (by omega)).2 s (by omega)
            rw [Nat.mul_zero, Nat.zero_add, hal] at this
            exact this
          have ew : z2.2.1 121 (nI s).toNatClampNeg = nI (plW T X beam 0 s).length := by
            rw [cs]
            have := ((hG2 0 (by omega)).1 s (by omega)).1
            rw [Nat.mul_zero, Nat.zero_add] at this
            exact this
          rw [List.drop_eq_nil_of_le (by omega), rstF_nil] at h5
          refine ri_go hJ [124] 90 13 rfl ?_
          refine ⟨vs, fun q => absurd (show z2.2.1 122 (nI s).toNatClampNeg = 0 from q) (by rw [ek]; decide), fun _ => ⟨vs, fun _ => k124 z2 acc' h1 h2 h3 (by rw [h5]; exact hfin) _ _ _ _, fun q => absurd (show z2.2.1 121 (nI s).toNatClampNeg ≤ nI k from ?_) q⟩⟩
          have := hWs.1
          rw [ew]; exact nI_le (by omega) (by omega)
        | succ n' ihk =>
          intro k hk z2 acc' h1 h2 h3 h5 o3 o4 o5
          obtain ⟨hM2, hA2, hG2⟩ := m1 z2 h3
          have hl4 := hWs.1
          have ekk := nI_1 k
          have ek : z2.2.1 122 (nI s).toNatClampNeg = 1 := by
            rw [cs]
            have := (hG2 0 (by omega)).2 s (by omega)
            rw [Nat.mul_zero, Nat.zero_add, hal] at this
            exact this
          have hWM := (hG2 0 (by omega)).1 s (by omega)
          rw [Nat.mul_zero, Nat.zero_add] at hWM
          have ew : z2.2.1 121 (nI s).toNatClampNeg = nI (plW T X beam 0 s).length := by rw [cs]; exact hWM.1
          obtain ⟨a, ha⟩ : ∃ a, (plW T X beam 0 s)[k]? = some a := ⟨_, List.getElem?_eq_getElem (by omega)⟩
          have haB := (hWs.2.2 k a ha).1
          have ei : 4 * nI s + nI k = nI (4 * s + k) := ix4d
          have ea : z2.2.1 118 (4 * nI s + nI k).toNatClampNeg = nI a.1 := by rw [ei, cl31 (by omega)]; exact (hWM.2 k a ha).1
          rw [drop_consW ha, rstF_cons, Nat.zero_add] at h5
          have k33 := tr_ins hJ (L := acc') (s := s) (k := k) (sm := a.1) (by omega) (by omega) (by omega) h2.1 h2.2.1 (WO_BD h2 (by omega)) h1 (fun z3 hT3 hm3 o4' o5' => by
            refine ri_go hJ [13] 90 122 rfl ?_
            have key := ihk (k + 1) (by omega) z3 _ hT3 (by
              have := rstF_ok (c := 0) (t := s) [a] k acc' (B := 321000 * T 8 2) (fun b hb' => by
                have hba : b = a := by simpa using hb'
                rw [hba]; omega) (by simp; omega) h2.1 h2.2.1 h2.2.2
              have e : rstF 0 s k [a] acc' = insk 4 acc' (a.1, 4 * s + k) := by rw [rstF_cons, rstF_nil, Nat.zero_add]
              rw [e] at this
              exact this) (mm_tr h3 (mm_mo hm3 (by decide) (by decide))) h5 (some (.int (nI a.1))) o4' o5'
            rw [← ekk] at key
            exact key) o4 o5
          refine ri_go hJ [124, 33] 90 13 rfl ?_
          refine ⟨vs, fun q => absurd (show z2.2.1 122 (nI s).toNatClampNeg = 0 from q) (by rw [ek]; decide), fun _ => ⟨vs, fun q => absurd (show z2.2.1 121 (nI s).toNatClampNeg ≤ nI k from q) (by rw [ew]; exact nI_ge (by omega) (by omega)), fun _ => ⟨by show vp_in (4 * nI s + nI k) 25600; rw [ei]; exact vp_in_nI (by omega) (by decide), ?_⟩⟩⟩
          rw [← ea] at k33
          exact k33
      refine ri_go hJ [13] 90 5 rfl ?_
      refine ⟨v0, fun q => absurd (show z1.2.1 117 (0 : Int32).toNatClampNeg ≤ nI s from q) (by rw [e0]; exact nI_ge (by omega) (by omega)), fun _ => ?_⟩
      cases hal : alv beam (plW T X beam 0) (X 0).length s with
      | true => exact kloop hal (plW T X beam 0 s).length 0 (by omega) z1 acc hT hO hm rfl _ _ _
      | false =>
        rw [if_neg (by rw [hal]; decide)] at hfin
        have ek : z1.2.1 122 (nI s).toNatClampNeg = 0 := by
          rw [cs]
          have := (hG1 0 (by omega)).2 s (by omega)
          rw [Nat.mul_zero, Nat.zero_add, hal] at this
          exact this
        refine ri_go hJ [124] 90 13 rfl ?_
        exact ⟨vs, fun _ => k124 z1 acc hT hO hm hfin _ _ _ _, fun q => absurd ek q⟩
  refine ri_run_ok hJ [5] 90 0 0 0 _ _ _ ?_
  exact gather (X 0).length 0 (by omega) (fs z 101 26 0) [] ⟨fs_self _ _ _ _, fun j a h => by simp at h⟩ (WO_nil _) (mm_fs (by decide)) hrow.symm none none none none
