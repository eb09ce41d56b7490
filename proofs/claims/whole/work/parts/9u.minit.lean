/-! the constructor of the reference -/
set_option maxRecDepth 20000 in
theorem e10_start (l : Launch) (Po : ri_O) {J : ri_K} (hJ : ri_clo J (t10_init l Po)) (X : List ri_C) (hX : 117 = 16 + X.length) (k : J 700 28 135022 [some (.ref 117), none] [] (X ++ .inr (10, [.int 0, .ref 118, .ref 119, .ref 120, .ref 121, .int 0, .int 0, .int 4, .ref 122, .ref 123, .ref 124, .ref 125, .ref 126, .ref 127, .ref 128, .ref 129, .ref 130, .ref 131, .ref 132, .ref 133, .ref 134, .ref 135, .ref 136, .ref 137, .ref 138, .ref 139, .int 0, .ref 140, .ref 141, .ref 142, .int 0, .ref 143, .int 0, .ref 144, .ref 145, .int 0]) :: [.inl (0, 52, .inl (u0 (fun _ => 0) [0, 4, 7, (-1), 2, 5, 9, (-1), 4, 7, 11, (-1), 5, 9, 0, (-1), 7, 11, 2, (-1), 9, 0, 4, (-1), 11, 2, 5, (-1), 7, 11, 2, 5, 2, 5, 9, 0, 2, 6, 9, (-1), 2, 6, 9, 0, 4, 8, 11, (-1), 0, 4, 7, 10] 0)), .inl (0, 52, .inl (u0 (fun _ => 0) [0, 3, 7, (-1), 2, 5, 8, (-1), 3, 7, 10, (-1), 5, 8, 0, (-1), 7, 11, 2, (-1), 8, 0, 3, (-1), 11, 2, 5, (-1), 7, 11, 2, 5, 2, 5, 8, 0, 2, 6, 9, (-1), 2, 6, 9, 0, 3, 7, 10, (-1), 0, 4, 7, 10] 0)), .inl (0, 12, .inl (u0 (fun _ => 0) [1, 0, 1, 0, 1, 1, 0, 1, 0, 1, 0, 1] 0)), .inl (0, 12, .inl (u0 (fun _ => 0) [1, 0, 1, 1, 0, 1, 0, 1, 1, 0, 0, 1] 0)), .inl (0, 64, .inl (fun _ => 0)), .inl (0, 16, .inl (fun _ => 0)), .inl (0, 16, .inl (fun _ => 0)), .inl (1, 16, .inl (fun _ => 0)), .inl (1, 13, .inl (fun _ => 0)), .inl (0, 9, .inl (u0 (fun _ => 0) [1, 2, 2, 1, 1, 4, 2, 5, 2] 0)), .inl (0, 4, .inl (u0 (fun _ => 0) [60, 53, 48, 40] 0)), .inl (0, 4, .inl (u0 (fun _ => 0) [81, 74, 69, 62] 0)), .inl (0, 25600, .inl (fun _ => 0)), .inl (0, 6400, .inl (fun _ => 0)), .inl (0, 6400, .inl (fun _ => 0)), .inl (0, 16, .inl (fun _ => 0)), .inl (0, 25600, .inl (fun _ => 0)), .inl (0, 25600, .inl (fun _ => 0)), .inl (0, 25600, .inl (fun _ => 0)), .inl (0, 6400, .inl (fun _ => 0)), .inl (1, 6400, .inl (fun _ => 0)), .inl (1, 6400, .inl (fun _ => 0)), .inl (0, 256, .inl (fun _ => 0)), .inl (0, 64, .inl (fun _ => 0)), .inl (0, 4, .inl (fun _ => 0)), .inl (0, 4, .inl (fun _ => 0)), .inl (0, 4, .inl (fun _ => 0)), .inl (0, 4, .inl (fun _ => 0))])) : J 0 0 0 [some (.ref 117), none] [] (X ++ [.inr (10, [.int 0, .null, .null, .null, .null, .int 0, .int 0, .int 0, .null, .null, .null, .null, .null, .null, .null, .null, .null, .null, .null, .null, .null, .null, .null, .null, .null, .null, .int 0, .null, .null, .null, .int 0, .null, .int 0, .null, .null, .int 0])]) := by
  refine ri_go hJ [2] 10 0 rfl ?_
  refine go_arr hJ (pc := 2) (x := 52) (kd := 0) (f := 1) (vs := [0, 4, 7, (-1), 2, 5, 9, (-1), 4, 7, 11, (-1), 5, 9, 0, (-1), 7, 11, 2, (-1), 9, 0, 4, (-1), 11, 2, 5, (-1), 7, 11, 2, 5, 2, 5, 9, 0, 2, 6, 9, (-1), 2, 6, 9, 0, 4, 8, 11, (-1), 0, 4, 7, 10]) rfl hX (by decide) rfl (by decide) rfl ?_
  refine go_arr hJ (pc := 214) (x := 52) (kd := 0) (f := 2) (vs := [0, 3, 7, (-1), 2, 5, 8, (-1), 3, 7, 10, (-1), 5, 8, 0, (-1), 7, 11, 2, (-1), 8, 0, 3, (-1), 11, 2, 5, (-1), 7, 11, 2, 5, 2, 5, 8, 0, 2, 6, 9, (-1), 2, 6, 9, 0, 3, 7, 10, (-1), 0, 4, 7, 10]) rfl hX (by decide) rfl (by decide) rfl ?_
  refine go_arr hJ (pc := 426) (x := 12) (kd := 0) (f := 3) (vs := [1, 0, 1, 0, 1, 1, 0, 1, 0, 1, 0, 1]) rfl hX (by decide) rfl (by decide) rfl ?_
  refine go_arr hJ (pc := 478) (x := 12) (kd := 0) (f := 4) (vs := [1, 0, 1, 1, 0, 1, 0, 1, 1, 0, 0, 1]) rfl hX (by decide) rfl (by decide) rfl ?_
  refine go_int hJ (pc := 530) (f := 7) (x := 4) rfl hX rfl ?_
  refine go_arr hJ (pc := 533) (x := 64) (kd := 0) (f := 8) (vs := []) rfl hX (by decide) rfl (by decide) rfl ?_
  refine go_arr hJ (pc := 537) (x := 16) (kd := 0) (f := 9) (vs := []) rfl hX (by decide) rfl (by decide) rfl ?_
  refine go_arr hJ (pc := 541) (x := 16) (kd := 0) (f := 10) (vs := []) rfl hX (by decide) rfl (by decide) rfl ?_
  refine go_arr hJ (pc := 545) (x := 16) (kd := 1) (f := 11) (vs := []) rfl hX (by decide) rfl (by decide) rfl ?_
  refine go_arr hJ (pc := 549) (x := 13) (kd := 1) (f := 12) (vs := []) rfl hX (by decide) rfl (by decide) rfl ?_
  refine go_arr hJ (pc := 553) (x := 9) (kd := 0) (f := 13) (vs := [1, 2, 2, 1, 1, 4, 2, 5, 2]) rfl hX (by decide) rfl (by decide) rfl ?_
  refine go_arr hJ (pc := 593) (x := 4) (kd := 0) (f := 14) (vs := [60, 53, 48, 40]) rfl hX (by decide) rfl (by decide) rfl ?_
  refine go_arr hJ (pc := 613) (x := 4) (kd := 0) (f := 15) (vs := [81, 74, 69, 62]) rfl hX (by decide) rfl (by decide) rfl ?_
  refine go_arr hJ (pc := 633) (x := 25600) (kd := 0) (f := 16) (vs := []) rfl hX (by decide) rfl (by decide) rfl ?_
  refine go_arr hJ (pc := 637) (x := 6400) (kd := 0) (f := 17) (vs := []) rfl hX (by decide) rfl (by decide) rfl ?_
  refine go_arr hJ (pc := 641) (x := 6400) (kd := 0) (f := 18) (vs := []) rfl hX (by decide) rfl (by decide) rfl ?_
  refine go_arr hJ (pc := 645) (x := 16) (kd := 0) (f := 19) (vs := []) rfl hX (by decide) rfl (by decide) rfl ?_
  refine go_arr hJ (pc := 649) (x := 25600) (kd := 0) (f := 20) (vs := []) rfl hX (by decide) rfl (by decide) rfl ?_
  refine go_arr hJ (pc := 653) (x := 25600) (kd := 0) (f := 21) (vs := []) rfl hX (by decide) rfl (by decide) rfl ?_
  refine go_arr hJ (pc := 657) (x := 25600) (kd := 0) (f := 22) (vs := []) rfl hX (by decide) rfl (by decide) rfl ?_
  refine go_arr hJ (pc := 661) (x := 6400) (kd := 0) (f := 23) (vs := []) rfl hX (by decide) rfl (by decide) rfl ?_
  refine go_arr hJ (pc := 665) (x := 6400) (kd := 1) (f := 24) (vs := []) rfl hX (by decide) rfl (by decide) rfl ?_
  refine go_arr hJ (pc := 669) (x := 6400) (kd := 1) (f := 25) (vs := []) rfl hX (by decide) rfl (by decide) rfl ?_
  refine go_arr hJ (pc := 673) (x := 256) (kd := 0) (f := 27) (vs := []) rfl hX (by decide) rfl (by decide) rfl ?_
  refine go_arr hJ (pc := 677) (x := 64) (kd := 0) (f := 28) (vs := []) rfl hX (by decide) rfl (by decide) rfl ?_
  refine go_arr hJ (pc := 681) (x := 4) (kd := 0) (f := 29) (vs := []) rfl hX (by decide) rfl (by decide) rfl ?_
  refine go_arr hJ (pc := 685) (x := 4) (kd := 0) (f := 31) (vs := []) rfl hX (by decide) rfl (by decide) rfl ?_
  refine go_arr hJ (pc := 689) (x := 4) (kd := 0) (f := 33) (vs := []) rfl hX (by decide) rfl (by decide) rfl ?_
  refine go_arr hJ (pc := 693) (x := 4) (kd := 0) (f := 34) (vs := []) rfl hX (by decide) rfl (by decide) rfl ?_
  refine go_int hJ (pc := 697) (f := 0) (x := 0) rfl hX rfl ?_
  exact k
