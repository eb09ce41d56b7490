/-! the law's loop -/
abbrev lL (i : Nat) : ri_L := [some (.ref 15), some (.ref 16), some (.ref 117), some (.int (nI i))]
def lK (J : ri_K) (i : Nat) : Prop := ∀ (z : st_T) (T : tT) (Q : tQ), CI z T Q → MI z T Q → J 535 202 243677 (lL i) [] (st_h z)
theorem lv_in {L i k : Nat} (h : i + 4 ≤ L) (hL : L ≤ 2048) (hk : k < 4) : vp_in (nI i + nI k) L := by
  rw [nI_add]; exact vp_in_nI (by omega) (by omega)
theorem lw_key (l : Launch) {L : Nat} {xs : Nat → Int32} {J : ri_K} (hJ : ri_clo J (t12_law l L xs)) {i : Nat} (h : i + 4 ≤ L) (hL : L ≤ 2048) (k : lK J i) {z : st_T} {T : tT} {Q : tQ} (hC : CI z T Q) (hM : MI z T Q) : J 22 202 243677 (lL i) [] (st_h z) := by
  refine ri_go hJ [535] 60 22 rfl ?_
  refine ⟨lv_in h hL (k := 1) (by decide), lv_in h hL (k := 2) (by decide), _, e9_key l z T Q hC _ _, ?_⟩
  rintro r h' ⟨rfl, z1, rfl, hC1, hm1⟩
  refine ⟨lv_in h hL (k := 1) (by decide), lv_in h hL (k := 2) (by decide), _, e10_key l z1 T Q (MI_X hM hm1) _ _, ?_⟩
  rintro r h' ⟨rfl, z2, rfl, hM2, hm2⟩
  exact ⟨fun _ => k z2 _ _ (CI_Y hC1 hm2) hM2, fun c => absurd rfl c⟩
theorem lw_places (l : Launch) {L : Nat} {xs : Nat → Int32} {J : ri_K} (hJ : ri_clo J (t12_law l L xs)) {i : Nat} (h : i + 4 ≤ L) (hL : L ≤ 2048) (k : lK J i) {z : st_T} {T : tT} {Q : tQ} (hC : CI z T Q) (hM : MI z T Q) : J 49 202 243677 (lL i) [] (st_h z) := by
  refine ri_go hJ [535] 60 49 rfl ?_
  refine ⟨lv_in h hL (k := 1) (by decide), _, e9_places l z T Q hC _, ?_⟩
  rintro r h' ⟨rfl, z1, rfl, hC1, hm1⟩
  refine ⟨lv_in h hL (k := 1) (by decide), _, e10_places l z1 T Q (MI_X hM hm1) _, ?_⟩
  rintro r h' ⟨rfl, z2, rfl, hM2, hm2⟩
  exact ⟨fun _ => k z2 _ _ (CI_Y hC1 hm2) hM2, fun c => absurd rfl c⟩
theorem lw_given (l : Launch) {L : Nat} {xs : Nat → Int32} {J : ri_K} (hJ : ri_clo J (t12_law l L xs)) {i : Nat} (h : i + 4 ≤ L) (hL : L ≤ 2048) (k : lK J i) {z : st_T} {T : tT} {Q : tQ} (hC : CI z T Q) (hM : MI z T Q) : J 66 202 243677 (lL i) [] (st_h z) := by
  refine ri_go hJ [535] 60 66 rfl ?_
  refine ⟨lv_in h hL (k := 1) (by decide), lv_in h hL (k := 2) (by decide), lv_in h hL (k := 3) (by decide), _, e9_given l z T Q hC _ _ _, ?_⟩
  rintro r h' ⟨rfl, z1, rfl, hC1, hm1⟩
  refine ⟨lv_in h hL (k := 1) (by decide), lv_in h hL (k := 2) (by decide), lv_in h hL (k := 3) (by decide), _, e10_given l z1 T Q hC.1 (MI_X hM hm1) _ _ _, ?_⟩
  rintro r h' ⟨rfl, z2, rfl, hM2, hm2⟩
  exact ⟨fun _ => k z2 _ _ (CI_Y hC1 hm2) hM2, fun c => absurd rfl c⟩
theorem lw_free (l : Launch) {L : Nat} {xs : Nat → Int32} {J : ri_K} (hJ : ri_clo J (t12_law l L xs)) {i : Nat} (h : i + 4 ≤ L) (hL : L ≤ 2048) (k : lK J i) {z : st_T} {T : tT} {Q : tQ} (hC : CI z T Q) (hM : MI z T Q) : J 103 202 243677 (lL i) [] (st_h z) := by
  refine ri_go hJ [535] 60 103 rfl ?_
  refine ⟨lv_in h hL (k := 1) (by decide), lv_in h hL (k := 2) (by decide), _, e9_free l z T Q hC _ _, ?_⟩
  rintro r h' ⟨rfl, z1, rfl, hC1, hm1⟩
  refine ⟨lv_in h hL (k := 1) (by decide), lv_in h hL (k := 2) (by decide), _, e10_free l z1 T Q hC.1 (MI_X hM hm1) _ _, ?_⟩
  rintro r h' ⟨rfl, z2, rfl, hM2, hm2⟩
  exact ⟨fun _ => k z2 _ _ (CI_Y hC1 hm2) hM2, fun c => absurd rfl c⟩
theorem lw_figure (l : Launch) {L : Nat} {xs : Nat → Int32} {J : ri_K} (hJ : ri_clo J (t12_law l L xs)) {i : Nat} (h : i + 4 ≤ L) (hL : L ≤ 2048) (k : lK J i) {z : st_T} {T : tT} {Q : tQ} (hC : CI z T Q) (hM : MI z T Q) : J 130 202 243677 (lL i) [] (st_h z) := by
  refine ri_go hJ [535] 60 130 rfl ?_
  refine ⟨lv_in h hL (k := 1) (by decide), lv_in h hL (k := 2) (by decide), _, e9_figure l z T Q hC _ _, ?_⟩
  rintro r h' ⟨rfl, z1, rfl, hC1, hm1⟩
  refine ⟨lv_in h hL (k := 1) (by decide), lv_in h hL (k := 2) (by decide), _, e10_figure l z1 T Q hC.1 (MI_X hM hm1) _ _, ?_⟩
  rintro r h' ⟨rfl, z2, rfl, hM2, hm2⟩
  exact ⟨fun _ => k z2 _ _ (CI_Y hC1 hm2) hM2, fun c => absurd rfl c⟩
theorem lw_inversion (l : Launch) {L : Nat} {xs : Nat → Int32} {J : ri_K} (hJ : ri_clo J (t12_law l L xs)) {i : Nat} (h : i + 4 ≤ L) (hL : L ≤ 2048) (k : lK J i) {z : st_T} {T : tT} {Q : tQ} (hC : CI z T Q) (hM : MI z T Q) : J 157 202 243677 (lL i) [] (st_h z) := by
  refine ri_go hJ [535] 60 157 rfl ?_
  refine ⟨lv_in h hL (k := 1) (by decide), lv_in h hL (k := 2) (by decide), _, e9_inversion l z T Q hC _ _, ?_⟩
  rintro r h' ⟨rfl, z1, rfl, hC1, hm1⟩
  refine ⟨lv_in h hL (k := 1) (by decide), lv_in h hL (k := 2) (by decide), _, e10_inversion l z1 T Q hC.1 (MI_X hM hm1) _ _, ?_⟩
  rintro r h' ⟨rfl, z2, rfl, hM2, hm2⟩
  exact ⟨fun _ => k z2 _ _ (CI_Y hC1 hm2) hM2, fun c => absurd rfl c⟩
theorem lw_fermata (l : Launch) {L : Nat} {xs : Nat → Int32} {J : ri_K} (hJ : ri_clo J (t12_law l L xs)) {i : Nat} (h : i + 4 ≤ L) (hL : L ≤ 2048) (k : lK J i) {z : st_T} {T : tT} {Q : tQ} (hC : CI z T Q) (hM : MI z T Q) : J 184 202 243677 (lL i) [] (st_h z) := by
  refine ri_go hJ [535] 60 184 rfl ?_
  refine ⟨lv_in h hL (k := 1) (by decide), lv_in h hL (k := 2) (by decide), fun c => ⟨_, e9_fermata l z T Q hC _ false, ?_⟩, fun c => ⟨_, e9_fermata l z T Q hC _ true, ?_⟩⟩
  · rintro r h' ⟨rfl, z1, rfl, hC1, hm1⟩
    refine ⟨lv_in h hL (k := 1) (by decide), lv_in h hL (k := 2) (by decide), fun _ => ⟨_, e10_fermata l z1 T Q hC.1 (MI_X hM hm1) _ false, ?_⟩, fun c' => absurd c c'⟩
    rintro r h' ⟨rfl, z2, rfl, hM2, hm2⟩
    exact ⟨fun _ => k z2 _ _ (CI_Y hC1 hm2) hM2, fun c => absurd rfl c⟩
  · rintro r h' ⟨rfl, z1, rfl, hC1, hm1⟩
    refine ⟨lv_in h hL (k := 1) (by decide), lv_in h hL (k := 2) (by decide), fun c' => absurd c' c, fun _ => ⟨_, e10_fermata l z1 T Q hC.1 (MI_X hM hm1) _ true, ?_⟩⟩
    rintro r h' ⟨rfl, z2, rfl, hM2, hm2⟩
    exact ⟨fun _ => k z2 _ _ (CI_Y hC1 hm2) hM2, fun c => absurd rfl c⟩
theorem lw_style (l : Launch) {L : Nat} {xs : Nat → Int32} {J : ri_K} (hJ : ri_clo J (t12_law l L xs)) {i : Nat} (h : i + 4 ≤ L) (hL : L ≤ 2048) (k : lK J i) {z : st_T} {T : tT} {Q : tQ} (hC : CI z T Q) (hM : MI z T Q) : J 219 202 243677 (lL i) [] (st_h z) := by
  refine ri_go hJ [535] 60 219 rfl ?_
  refine ⟨lv_in h hL (k := 1) (by decide), lv_in h hL (k := 2) (by decide), fun c => ⟨_, e9_style l z T Q hC _ false, ?_⟩, fun c => ⟨_, e9_style l z T Q hC _ true, ?_⟩⟩
  · rintro r h' ⟨rfl, z1, rfl, hC1, hm1⟩
    refine ⟨lv_in h hL (k := 1) (by decide), lv_in h hL (k := 2) (by decide), fun _ => ⟨_, e10_style l z1 T Q hC.1 (MI_X hM hm1) _ false, ?_⟩, fun c' => absurd c c'⟩
    rintro r h' ⟨rfl, z2, rfl, hM2, hm2⟩
    exact ⟨fun _ => k z2 _ _ (CI_Y hC1 hm2) hM2, fun c => absurd rfl c⟩
  · rintro r h' ⟨rfl, z1, rfl, hC1, hm1⟩
    refine ⟨lv_in h hL (k := 1) (by decide), lv_in h hL (k := 2) (by decide), fun c' => absurd c' c, fun _ => ⟨_, e10_style l z1 T Q hC.1 (MI_X hM hm1) _ true, ?_⟩⟩
    rintro r h' ⟨rfl, z2, rfl, hM2, hm2⟩
    exact ⟨fun _ => k z2 _ _ (CI_Y hC1 hm2) hM2, fun c => absurd rfl c⟩
theorem lw_cost (l : Launch) {L : Nat} {xs : Nat → Int32} {J : ri_K} (hJ : ri_clo J (t12_law l L xs)) {i : Nat} (h : i + 4 ≤ L) (hL : L ≤ 2048) (k : lK J i) {z : st_T} {T : tT} {Q : tQ} (hC : CI z T Q) (hM : MI z T Q) : J 254 202 243677 (lL i) [] (st_h z) := by
  refine ri_go hJ [535] 60 254 rfl ?_
  refine ⟨lv_in h hL (k := 1) (by decide), lv_in h hL (k := 2) (by decide), _, e9_cost l z T Q hC _ _, ?_⟩
  rintro r h' ⟨rfl, z1, rfl, hC1, hm1⟩
  refine ⟨lv_in h hL (k := 1) (by decide), lv_in h hL (k := 2) (by decide), _, e10_cost l z1 T Q (MI_X hM hm1) _ _, ?_⟩
  rintro r h' ⟨rfl, z2, rfl, hM2, hm2⟩
  exact ⟨fun _ => k z2 _ _ (CI_Y hC1 hm2) hM2, fun c => absurd rfl c⟩
theorem lw_range (l : Launch) {L : Nat} {xs : Nat → Int32} {J : ri_K} (hJ : ri_clo J (t12_law l L xs)) {i : Nat} (h : i + 4 ≤ L) (hL : L ≤ 2048) (k : lK J i) {z : st_T} {T : tT} {Q : tQ} (hC : CI z T Q) (hM : MI z T Q) : J 281 202 243677 (lL i) [] (st_h z) := by
  refine ri_go hJ [535] 60 281 rfl ?_
  refine ⟨lv_in h hL (k := 1) (by decide), lv_in h hL (k := 2) (by decide), lv_in h hL (k := 3) (by decide), _, e9_range l z T Q hC _ _ _, ?_⟩
  rintro r h' ⟨rfl, z1, rfl, hC1, hm1⟩
  refine ⟨lv_in h hL (k := 1) (by decide), lv_in h hL (k := 2) (by decide), lv_in h hL (k := 3) (by decide), _, e10_range l z1 T Q (MI_X hM hm1) _ _ _, ?_⟩
  rintro r h' ⟨rfl, z2, rfl, hM2, hm2⟩
  exact ⟨fun _ => k z2 _ _ (CI_Y hC1 hm2) hM2, fun c => absurd rfl c⟩
theorem lw_solve (l : Launch) {L : Nat} {xs : Nat → Int32} {J : ri_K} (hJ : ri_clo J (t12_law l L xs)) {i : Nat} (h : i + 4 ≤ L) (hL : L ≤ 2048) (k : lK J i) {z : st_T} {T : tT} {Q : tQ} (hC : CI z T Q) (hM : MI z T Q) : J 318 202 243677 (lL i) [] (st_h z) := by
  refine ri_go hJ [535] 60 318 rfl ?_
  refine ⟨lv_in h hL (k := 1) (by decide), _, e9_solve l z T Q hC _, ?_⟩
  rintro r h' ⟨rfl, z1, rfl, hC1, hm1⟩
  refine ⟨lv_in h hL (k := 1) (by decide), _, e10_solve l z1 T Q hC.1 (MI_X hM hm1) _, ?_⟩
  rintro r h' ⟨rfl, z2, rfl, hM2, hm2⟩
  exact ⟨fun _ => k z2 _ _ (CI_Y hC1 hm2) hM2, fun c => absurd rfl c⟩
theorem lw_note (l : Launch) {L : Nat} {xs : Nat → Int32} {J : ri_K} (hJ : ri_clo J (t12_law l L xs)) {i : Nat} (h : i + 4 ≤ L) (hL : L ≤ 2048) (k : lK J i) {z : st_T} {T : tT} {Q : tQ} (hC : CI z T Q) (hM : MI z T Q) : J 335 202 243677 (lL i) [] (st_h z) := by
  refine ri_go hJ [535] 60 335 rfl ?_
  refine ⟨lv_in h hL (k := 1) (by decide), lv_in h hL (k := 2) (by decide), lv_in h hL (k := 3) (by decide), _, e9_note l z T Q hC _ _ _, ?_⟩
  rintro r h' ⟨rfl, z1, rfl, hC1, hm1⟩
  refine ⟨lv_in h hL (k := 1) (by decide), lv_in h hL (k := 2) (by decide), lv_in h hL (k := 3) (by decide), _, e10_note l z1 T Q hC.1 hC.2.1 (MI_X hM hm1) _ _ _, ?_⟩
  rintro r h' ⟨rfl, z2, rfl, hM2, hm2⟩
  exact ⟨fun _ => k z2 _ _ (CI_Y hC1 hm2) hM2, fun c => absurd rfl c⟩
theorem lw_chord (l : Launch) {L : Nat} {xs : Nat → Int32} {J : ri_K} (hJ : ri_clo J (t12_law l L xs)) {i : Nat} (h : i + 4 ≤ L) (hL : L ≤ 2048) (k : lK J i) {z : st_T} {T : tT} {Q : tQ} (hC : CI z T Q) (hM : MI z T Q) : J 372 202 243677 (lL i) [] (st_h z) := by
  refine ri_go hJ [535] 60 372 rfl ?_
  refine ⟨lv_in h hL (k := 1) (by decide), lv_in h hL (k := 2) (by decide), _, e9_chord l z T Q hC _ _, ?_⟩
  rintro r h' ⟨rfl, z1, rfl, hC1, hm1⟩
  refine ⟨lv_in h hL (k := 1) (by decide), lv_in h hL (k := 2) (by decide), _, e10_chord l z1 T Q hC.1 hC.2.1 (MI_X hM hm1) _ _, ?_⟩
  rintro r h' ⟨rfl, z2, rfl, hM2, hm2⟩
  exact ⟨fun _ => k z2 _ _ (CI_Y hC1 hm2) hM2, fun c => absurd rfl c⟩
theorem lw_sum (l : Launch) {L : Nat} {xs : Nat → Int32} {J : ri_K} (hJ : ri_clo J (t12_law l L xs)) {i : Nat} (h : i + 4 ≤ L) (hL : L ≤ 2048) (k : lK J i) {z : st_T} {T : tT} {Q : tQ} (hC : CI z T Q) (hM : MI z T Q) : J 399 202 243677 (lL i) [] (st_h z) := by
  refine ri_go hJ [535] 60 399 rfl ?_
  refine ⟨lv_in h hL (k := 1) (by decide), _, e9_sum l z T Q hC _, ?_⟩
  rintro r h' ⟨rfl, z1, rfl, hC1, hm1⟩
  refine ⟨lv_in h hL (k := 1) (by decide), _, e10_sum l z1 T Q hC.2.1 (MI_X hM hm1) _, ?_⟩
  rintro r h' ⟨rfl, z2, rfl, hM2, hm2⟩
  exact ⟨fun _ => k z2 _ _ (CI_Y hC1 hm2) hM2, fun c => absurd rfl c⟩
theorem lw_least (l : Launch) {L : Nat} {xs : Nat → Int32} {J : ri_K} (hJ : ri_clo J (t12_law l L xs)) {i : Nat} (h : i + 4 ≤ L) (hL : L ≤ 2048) (k : lK J i) {z : st_T} {T : tT} {Q : tQ} (hC : CI z T Q) (hM : MI z T Q) : J 416 202 243677 (lL i) [] (st_h z) := by
  refine ri_go hJ [535] 60 416 rfl ?_
  refine ⟨_, e9_least l z T Q hC, ?_⟩
  rintro r h' ⟨rfl, z1, rfl, hC1, hm1⟩
  refine ⟨_, e10_least l z1 T Q hC.2.1 (MI_X hM hm1), ?_⟩
  rintro r h' ⟨rfl, z2, rfl, hM2, hm2⟩
  exact ⟨fun _ => k z2 _ _ (CI_Y hC1 hm2) hM2, fun c => absurd rfl c⟩
theorem lw_states (l : Launch) {L : Nat} {xs : Nat → Int32} {J : ri_K} (hJ : ri_clo J (t12_law l L xs)) {i : Nat} (h : i + 4 ≤ L) (hL : L ≤ 2048) (k : lK J i) {z : st_T} {T : tT} {Q : tQ} (hC : CI z T Q) (hM : MI z T Q) : J 423 202 243677 (lL i) [] (st_h z) := by
  refine ri_go hJ [535] 60 423 rfl ?_
  refine ⟨lv_in h hL (k := 1) (by decide), _, e9_states l z T Q hC _, ?_⟩
  rintro r h' ⟨rfl, z1, rfl, hC1, hm1⟩
  refine ⟨lv_in h hL (k := 1) (by decide), _, e10_states l z1 T Q hC.1 (MI_X hM hm1) _, ?_⟩
  rintro r h' ⟨rfl, z2, rfl, hM2, hm2⟩
  exact ⟨fun _ => k z2 _ _ (CI_Y hC1 hm2) hM2, fun c => absurd rfl c⟩
theorem lw_blocked (l : Launch) {L : Nat} {xs : Nat → Int32} {J : ri_K} (hJ : ri_clo J (t12_law l L xs)) {i : Nat} (h : i + 4 ≤ L) (hL : L ≤ 2048) (k : lK J i) {z : st_T} {T : tT} {Q : tQ} (hC : CI z T Q) (hM : MI z T Q) : J 440 202 243677 (lL i) [] (st_h z) := by
  refine ri_go hJ [535] 60 440 rfl ?_
  refine ⟨lv_in h hL (k := 1) (by decide), _, e9_blocked l z T Q hC _, ?_⟩
  rintro r h' ⟨rfl, z1, rfl, hC1, hm1⟩
  refine ⟨lv_in h hL (k := 1) (by decide), _, e10_blocked l z1 T Q hC.1 (MI_X hM hm1) _, ?_⟩
  rintro r h' ⟨rfl, z2, rfl, hM2, hm2⟩
  exact ⟨fun _ => k z2 _ _ (CI_Y hC1 hm2) hM2, fun c => absurd rfl c⟩
theorem lw_repair (l : Launch) {L : Nat} {xs : Nat → Int32} {J : ri_K} (hJ : ri_clo J (t12_law l L xs)) {i : Nat} (h : i + 4 ≤ L) (hL : L ≤ 2048) (k : lK J i) {z : st_T} {T : tT} {Q : tQ} (hC : CI z T Q) (hM : MI z T Q) : J 457 202 243677 (lL i) [] (st_h z) := by
  refine ri_go hJ [535] 60 457 rfl ?_
  refine ⟨_, e9_repair l z T Q hC, ?_⟩
  rintro r h' ⟨rfl, z1, rfl, hC1, hm1⟩
  refine ⟨_, e10_repair l z1 T Q hC.1 (MI_X hM hm1), ?_⟩
  rintro r h' ⟨rfl, z2, rfl, hM2, hm2⟩
  exact ⟨fun _ => k z2 _ _ (CI_Y hC1 hm2) hM2, fun c => absurd rfl c⟩
set_option maxRecDepth 20000 in
theorem lw_passing (l : Launch) {L : Nat} {xs : Nat → Int32} {J : ri_K} (hJ : ri_clo J (t12_law l L xs)) {i : Nat} (h : i + 4 ≤ L) (hL : L ≤ 2048) (k : lK J i) {z : st_T} {T : tT} {Q : tQ} (hC : CI z T Q) (hM : MI z T Q) : J 464 202 243677 (lL i) [] (st_h z) := by
  refine ri_go hJ [535] 60 464 rfl ?_
  refine ⟨lv_in h hL (k := 1) (by decide), lv_in h hL (k := 2) (by decide), _, e9_passing l z T Q hC _ _, ?_⟩
  rintro r h' ⟨rfl, z1, rfl, hC1, hm1⟩
  refine ⟨lv_in h hL (k := 1) (by decide), lv_in h hL (k := 2) (by decide), _, e10_passing l z1 T Q hC.1 hC.2.1 (MI_X hM hm1) _ _, ?_⟩
  rintro r h' ⟨rfl, z2, rfl, hM2, hm2⟩
  exact ⟨fun _ => k z2 _ _ (CI_Y hC1 hm2) hM2, fun c => absurd rfl c⟩
set_option maxRecDepth 20000 in
theorem lw_count (l : Launch) {L : Nat} {xs : Nat → Int32} {J : ri_K} (hJ : ri_clo J (t12_law l L xs)) {i : Nat} (h : i + 4 ≤ L) (hL : L ≤ 2048) (k : lK J i) {z : st_T} {T : tT} {Q : tQ} (hC : CI z T Q) (hM : MI z T Q) : J 491 202 243677 (lL i) [] (st_h z) := by
  refine ri_go hJ [535] 60 491 rfl ?_
  refine ⟨lv_in h hL (k := 1) (by decide), _, e9_count l z T Q hC _, ?_⟩
  rintro r h' ⟨rfl, z1, rfl, hC1, hm1⟩
  refine ⟨lv_in h hL (k := 1) (by decide), _, e10_count l z1 T Q hC.1 (MI_X hM hm1) _, ?_⟩
  rintro r h' ⟨rfl, z2, rfl, hM2, hm2⟩
  exact ⟨fun _ => k z2 _ _ (CI_Y hC1 hm2) hM2, fun c => absurd rfl c⟩
set_option maxRecDepth 20000 in
theorem lw_member (l : Launch) {L : Nat} {xs : Nat → Int32} {J : ri_K} (hJ : ri_clo J (t12_law l L xs)) {i : Nat} (h : i + 4 ≤ L) (hL : L ≤ 2048) (k : lK J i) {z : st_T} {T : tT} {Q : tQ} (hC : CI z T Q) (hM : MI z T Q) : J 508 202 243677 (lL i) [] (st_h z) := by
  refine ri_go hJ [535] 60 508 rfl ?_
  refine ⟨lv_in h hL (k := 1) (by decide), lv_in h hL (k := 2) (by decide), _, e9_member l z T Q hC _ _, ?_⟩
  rintro r h' ⟨rfl, z1, rfl, hC1, hm1⟩
  refine ⟨lv_in h hL (k := 1) (by decide), lv_in h hL (k := 2) (by decide), _, e10_member l z1 T Q hC.1 (MI_X hM hm1) _ _, ?_⟩
  rintro r h' ⟨rfl, z2, rfl, hM2, hm2⟩
  exact ⟨fun _ => k z2 _ _ (CI_Y hC1 hm2) hM2, fun c => absurd rfl c⟩
theorem lw_ge {L i : Nat} (hL : L ≤ 2048) (hi : i ≤ 2060) : (nI L - 4 < nI i) ↔ ¬ (i + 4 ≤ L) := by
  have e : (nI L - 4).toInt = (L : Int) - 4 := by
    by_cases q : 4 ≤ L
    · obtain ⟨a, rfl⟩ : ∃ a, L = a + 4 := ⟨L - 4, by omega⟩
      rw [← nI_add a 4, show nI 4 = 4 from rfl, Int32.add_sub_cancel, nI_toInt (by omega)]
      omega
    · have : L = 0 ∨ L = 1 ∨ L = 2 ∨ L = 3 := by omega
      rcases this with rfl | rfl | rfl | rfl <;> decide
  rw [i_ltI, e, nI_toInt (by omega)]
  omega
set_option maxRecDepth 20000 in
theorem lw_loop (l : Launch) {L : Nat} {xs : Nat → Int32} {J : ri_K} (hJ : ri_clo J (t12_law l L xs)) (hL : L ≤ 2048) : ∀ (n i : Nat), L ≤ i + 4 * n → i ≤ L + 3 → ∀ (z : st_T) (T : tT) (Q : tQ), CI z T Q → MI z T Q → J 10 202 243677 (lL i) [] (st_h z) := by
  intro n
  induction n with
  | zero =>
    intro i h1 h2 z T Q hC hM
    refine ri_go hJ [] 20 10 rfl ?_
    exact ⟨fun _ => ⟨rfl, by decide, by decide⟩, fun c => absurd ((lw_ge hL (by omega)).mpr (by omega)) c⟩
  | succ n ih =>
    intro i h1 h2 z T Q hC hM
    by_cases hx : i + 4 ≤ L
    · have k : lK J i := fun z T Q hC hM => by
        refine ri_go hJ [10] 20 535 rfl ?_
        have := ih (i + 4) (by omega) (by omega) z T Q hC hM
        unfold lL at this
        rw [← nI_add i 4] at this
        exact this
      refine ri_go hJ [535, 22, 49, 66, 103, 130, 157, 184, 219, 254, 281, 318, 335, 372, 399, 416, 423, 440, 457, 464, 491, 508] 20 10 rfl ?_
      refine ⟨fun c => absurd hx ((lw_ge hL (by omega)).mp c), fun _ => ⟨vp_in_nI (by omega) (by omega), ?_⟩⟩
      exact ⟨fun _ => lw_key l hJ hx hL k hC hM, fun _ => ⟨fun _ => lw_places l hJ hx hL k hC hM, fun _ => ⟨fun _ => lw_given l hJ hx hL k hC hM, fun _ => ⟨fun _ => lw_free l hJ hx hL k hC hM, fun _ => ⟨fun _ => lw_figure l hJ hx hL k hC hM, fun _ => ⟨fun _ => lw_inversion l hJ hx hL k hC hM, fun _ => ⟨fun _ => lw_fermata l hJ hx hL k hC hM, fun _ => ⟨fun _ => lw_style l hJ hx hL k hC hM, fun _ => ⟨fun _ => lw_cost l hJ hx hL k hC hM, fun _ => ⟨fun _ => lw_range l hJ hx hL k hC hM, fun _ => ⟨fun _ => lw_solve l hJ hx hL k hC hM, fun _ => ⟨fun _ => lw_note l hJ hx hL k hC hM, fun _ => ⟨fun _ => lw_chord l hJ hx hL k hC hM, fun _ => ⟨fun _ => lw_sum l hJ hx hL k hC hM, fun _ => ⟨fun _ => lw_least l hJ hx hL k hC hM, fun _ => ⟨fun _ => lw_states l hJ hx hL k hC hM, fun _ => ⟨fun _ => lw_blocked l hJ hx hL k hC hM, fun _ => ⟨fun _ => lw_repair l hJ hx hL k hC hM, fun _ => ⟨fun _ => lw_passing l hJ hx hL k hC hM, fun _ => ⟨fun _ => lw_count l hJ hx hL k hC hM, fun _ => ⟨fun _ => lw_member l hJ hx hL k hC hM, fun _ => k z T Q hC hM⟩⟩⟩⟩⟩⟩⟩⟩⟩⟩⟩⟩⟩⟩⟩⟩⟩⟩⟩⟩⟩
    · refine ri_go hJ [] 20 10 rfl ?_
      exact ⟨fun _ => ⟨rfl, by decide, by decide⟩, fun c => absurd ((lw_ge hL (by omega)).mpr hx) c⟩
set_option maxRecDepth 20000 in
theorem lw_begin (l : Launch) {L : Nat} {xs : Nat → Int32} {J : ri_K} (hJ : ri_clo J (t12_law l L xs)) (hL : L ≤ 2048) : J 0 0 0 [some (.ref 15), none, none, none] [] [] := by
  refine ri_go hJ [10] 20 0 rfl ?_
  refine ⟨_, e9_init l, ?_⟩
  rintro r h' ⟨rfl, z, rfl, hC⟩
  refine ⟨_, e10_init l z, ?_⟩
  rintro r h' ⟨rfl, z', rfl, hM, hm⟩
  exact lw_loop l hJ hL 512 0 (by omega) (by omega) z' T0 Q0 (CI_Y hC hm) hM
