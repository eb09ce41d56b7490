/-! THE CLAIM OUT OF ONE WALK OF THE LAW'S BODY. Your part is whole_start (and what it stands on); all else here is the same for every law, but numbers. -/
def R_law : String := "ChoraleSearchLaw"
def lw_P (b : Addr) (xs : List Int32) (args : Array Value) (s : State) : Prop := args = #[.ref b] ∧ s.IntsAt b xs ∧ xs.length ≤ 2048 ∧ (Jvm.Cond.and given_1 narrow_1).before args s = true
def lw_Q (_ : Array Value) (s : State) (o : Outcome) (t : State) : Prop := o = .returned (some (.int 1)) ∧ Framed s o t [] 600000 7302250
def lw_Z (below : List Frame) (a : Array Value) (s : State) : State → Prop := fun t => ∃ o, t.status = .running ∧ Ended t below o ∧ lw_Q a s o t
/-- the law's own end, with 1 on the stack, nothing written that was there before, its room as the claim has it -/
theorem lw_ret {p : Program} {l : Launch} {e : Env} {s : State} {m : MethodId} {below : List Frame} {meth : Method} {c : Code} {b : Nat} (hx : p.tables.exec = Jvm.exec) (hb : c.code = code) (hr : meth.sig.returnType = ret) (hlocks : meth.locks = false) {pc : Nat} {H : Heap} {ls : Array Slot} (hdg : decode code pc = .ok (.ireturn, 1)) : W p l e room_1 s m #[Value.ref b] below meth c H [] 600000 7302250 (lw_Z below #[Value.ref b] s) (F0 m pc ls [.int 1]) := by
  intro T hT X
  obtain ⟨fs, hret, hrun, hended, hW, hframe⟩ := X.leave (v := some (.int 1)) (hlocks := hlocks) (fun h => by rw [hr] at h; cases h)
  have hmeth' : T.vm.method? m = some meth := X.method'
  refine ⟨T.setFrames fs, ?_, .returned (some (.int 1)), hrun, hended, rfl, ⟨_, rfl⟩, hW, hframe⟩
  jvm_step X.here [X.here.top, hx, hb, hdg, hmeth', hr, ret, narrow_b1]
  (try refine ⟨rfl, ?_⟩); (try refine ⟨rfl, ?_⟩)
  first | (intro acts; rw [hret _ acts rfl rfl rfl]) | rw [hret _ _ rfl rfl rfl]
  exact Steps.refl _
/-- what holds at the law's entry: the machine, the code, the tables' words (any of lw_tbl by 'hts w (by decide +kernel)'), the script of L ints xs at the cell b, what the Statement gives of the start (any of its parts by flat_of_before) -/
def lw_At (p : Program) (s : State) (m : MethodId) (meth : Method) (c : Code) (b L : Nat) (xs : Nat → Int32) : Prop :=
  p.tables.exec = Jvm.exec ∧ c.code = code ∧ meth.sig.returnType = ret ∧ c.maxLocals = 4 ∧ s.vm.findClass R_law = some m.cls ∧ (∀ w ∈ lw_tbl, w.before #[Value.ref b] s = true) ∧ va_X b L xs s s.heap ∧ b < s.heap.size ∧ meth.locks = false ∧ (Jvm.Cond.and given_1 narrow_1).before #[Value.ref b] s = true
/-! the law's own instructions: the script lies at place 15 -/
def i_sld (n L : Nat) (xs : Nat → Int32) : ri_S := fun k U V Lo st h => match st with
  | .int j :: .ref 15 :: r => vp_in j L ∧ k n U V Lo (.int (xs j.toNatClampNeg) :: r) h
  | _ => False
def i_sln (n L : Nat) : ri_S := fun k U V Lo st h => match st with
  | .ref 15 :: r => k n U V Lo (.int (nI L) :: r) h
  | _ => False
def i_lret : ri_S := fun _ U V _ st _ => match st with
  | [.int x] => x = 1 ∧ U ≤ 600000 ∧ V ≤ 7302250
  | _ => False
section RIL
variable {p : Program} {l : Launch} {e : Env} {s : State} {m : MethodId} {below : List Frame} {meth : Method} {c : Code} {D : va_G} {ka : Nat → ClassId} {sa : Nat → Nat} {pf : Nat → Nat} {i n b L : Nat} {xs : Nat → Int32}
theorem s_sld (X : ri_X p s m #[Value.ref b] c code 4 ri_gT "ChoraleSearchLaw" D ka sa s.heap.size) (hX : va_X b L xs s s.heap) (hbl : b < s.heap.size) (h15 : sa 15 = b) (hd : decode code (pf i) = .ok (.iaload, 1)) (hn : pf n = pf i + 1) : ri_snd (ri_W p l e room_1 s m #[Value.ref b] below meth c D ka sa s.heap.size 4 (lw_Z below #[Value.ref b] s) pf) i (i_sld n L xs) := by
  intro k hk U V Lo st h hf
  unfold i_sld at hf
  split at hf
  · rename_i j r
    obtain ⟨hin, hf⟩ := hf
    intro H locs ls hH hS hl
    have hw := hk _ _ _ _ _ _ hf H locs ls hH hS hl
    rw [hn] at hw
    show W p l e room_1 s m #[Value.ref b] below meth c H locs U V (lw_Z below #[Value.ref b] s) (F0 m (pf i) ls (.int j :: .ref (sa 15) :: r.map (ri_v sa s.heap.size)))
    rw [h15]
    exact va_sld X.1 X.2.1 hX hbl (Nat.not_le.mpr hbl) hS hin hd hw
  · exact hf.elim
theorem s_sln (X : ri_X p s m #[Value.ref b] c code 4 ri_gT "ChoraleSearchLaw" D ka sa s.heap.size) (hX : va_X b L xs s s.heap) (hbl : b < s.heap.size) (h15 : sa 15 = b) (hd : decode code (pf i) = .ok (.arraylength, 1)) (hn : pf n = pf i + 1) : ri_snd (ri_W p l e room_1 s m #[Value.ref b] below meth c D ka sa s.heap.size 4 (lw_Z below #[Value.ref b] s) pf) i (i_sln n L) := by
  intro k hk U V Lo st h hf
  unfold i_sln at hf
  split at hf
  · rename_i r
    intro H locs ls hH hS hl
    have hw := hk _ _ _ _ _ _ hf H locs ls hH hS hl
    rw [hn] at hw
    show W p l e room_1 s m #[Value.ref b] below meth c H locs U V (lw_Z below #[Value.ref b] s) (F0 m (pf i) ls (.ref (sa 15) :: r.map (ri_v sa s.heap.size)))
    rw [h15]
    exact va_slen X.1 X.2.1 hX hbl (Nat.not_le.mpr hbl) hS hd hw
  · exact hf.elim
theorem s_lret (X : ri_X p s m #[Value.ref b] c code 4 ri_gT "ChoraleSearchLaw" D ka sa s.heap.size) (hret : meth.sig.returnType = ret) (hlocks : meth.locks = false) (hd : decode code (pf i) = .ok (.ireturn, 1)) : ri_snd (ri_W p l e room_1 s m #[Value.ref b] below meth c D ka sa s.heap.size 4 (lw_Z below #[Value.ref b] s) pf) i i_lret := by
  intro k hk U V Lo st h hf
  unfold i_lret at hf
  split at hf
  · rename_i x
    obtain ⟨rfl, h1, h2⟩ := hf
    intro H locs ls hH hS hl
    refine va_forget (fun q hq => hS.2.2 q hq) ?_
    refine W.widen (k := 600000) (n := 7302250) h1 h2 ?_
    exact lw_ret X.1 X.2.1 hret hlocks hd
  · exact hf.elim
theorem ri_goodL {y : MethodName} {bytes : ByteArray} {maxL : Nat} {ret : Option FieldType} (hcode : Cond.code y bytes maxL ret ∈ ri_gT) : GoodIn ri_gT (Cond.code y bytes maxL ret :: ri_gT) := by
  intro w hw
  have h : w ∈ ri_gT := (List.mem_cons.mp hw).elim (fun z => z ▸ hcode) id
  exact ⟨h, good_of_word (ri_gT_ok w h)⟩
theorem ri_cL {own : String} {args : Array Value} {cc : ByteArray} {nL base : Nat} {y : MethodName} {ret : Option FieldType} {bytes : ByteArray} {maxL mc ms ix : Nat} {rm rm2 : Room} (X : ri_X p s m args c cc nL ri_gT own D ka sa base) (na : Nat) (hcode : Cond.code y bytes maxL ret ∈ ri_gT) (hini : Cond.initialized y.cls ∈ ri_gT) (hlink : Cond.methodLink own ix y ∈ ri_gT) (hd : y.cls ≠ "java/lang/invoke/MethodHandle" ∧ y.cls ≠ "java/lang/invoke/VarHandle" ∧ (parseMethodDescriptor y.desc).map (fun d => d.parameters.length) = some na) (hrc : rm2.cells = mc) (hrs : rm2.slots = ms) (hR : rm2.frames + 1 ≤ rm.frames ∧ 8 + (maxL + 11) + rm2.locals ≤ rm.locals) : CallB rm s args own ix y bytes maxL ret (Cond.code y bytes maxL ret :: ri_gT) rm2 mc ms na :=
  callB_of na X.2.2.2.2.1 (ri_goodL hcode) rfl hrc hrs (X.2.2.2.2.1 _ hini) (X.2.2.2.2.1 _ hlink) hd hR
end RIL
def p12_law : Nat → Nat := fun i => ([0, 3, 4, 7, 8, 11, 12, 15, 16, 17, 18, 19, 20, 21, 22, 23, 26, 27, 28, 29, 31, 32, 132, 133, 134, 135, 136, 137, 138, 139, 140, 141, 142, 143, 146, 147, 148, 149, 150, 151, 152, 153, 154, 155, 156, 157, 160, 163, 164, 165, 166, 167, 168, 169, 170, 171, 174, 175, 176, 177, 178, 179, 180, 183, 186, 187, 188, 189, 190, 191, 192, 193, 194, 195, 196, 197, 198, 199, 200, 201, 202, 203, 204, 207, 208, 209, 210, 211, 212, 213, 214, 215, 216, 217, 218, 219, 220, 221, 222, 223, 226, 229, 230, 231, 232, 233, 234, 235, 236, 237, 238, 239, 240, 241, 242, 245, 246, 247, 248, 249, 250, 251, 252, 253, 254, 255, 256, 259, 262, 263, 264, 265, 266, 267, 268, 269, 270, 271, 272, 273, 274, 275, 278, 279, 280, 281, 282, 283, 284, 285, 286, 287, 288, 289, 292, 295, 296, 297, 298, 299, 300, 301, 302, 303, 304, 305, 306, 307, 308, 311, 312, 313, 314, 315, 316, 317, 318, 319, 320, 321, 322, 325, 328, 329, 330, 331, 332, 333, 334, 335, 336, 337, 338, 339, 340, 341, 344, 345, 348, 349, 352, 353, 354, 355, 356, 357, 358, 359, 360, 361, 362, 363, 366, 367, 370, 371, 374, 377, 378, 379, 380, 381, 382, 383, 384, 385, 386, 387, 388, 389, 390, 393, 394, 397, 398, 401, 402, 403, 404, 405, 406, 407, 408, 409, 410, 411, 412, 415, 416, 419, 420, 423, 426, 427, 428, 429, 430, 431, 432, 433, 434, 435, 436, 437, 438, 439, 442, 443, 444, 445, 446, 447, 448, 449, 450, 451, 452, 453, 456, 459, 460, 461, 462, 463, 464, 465, 466, 467, 468, 469, 470, 471, 472, 473, 474, 475, 476, 477, 480, 481, 482, 483, 484, 485, 486, 487, 488, 489, 490, 491, 492, 493, 494, 495, 496, 499, 502, 503, 504, 505, 506, 507, 508, 509, 510, 513, 514, 515, 516, 517, 518, 519, 522, 525, 526, 527, 528, 529, 530, 531, 532, 533, 534, 535, 536, 537, 538, 539, 540, 541, 542, 543, 546, 547, 548, 549, 550, 551, 552, 553, 554, 555, 556, 557, 558, 559, 560, 561, 562, 565, 568, 569, 570, 571, 572, 573, 574, 575, 576, 577, 578, 579, 580, 581, 584, 585, 586, 587, 588, 589, 590, 591, 592, 593, 594, 595, 598, 601, 602, 603, 604, 605, 606, 607, 608, 609, 612, 613, 614, 615, 616, 617, 618, 621, 624, 625, 626, 627, 630, 631, 634, 637, 638, 639, 640, 641, 642, 643, 644, 645, 648, 649, 650, 651, 652, 653, 654, 657, 660, 661, 662, 663, 664, 665, 666, 667, 668, 671, 672, 673, 674, 675, 676, 677, 680, 683, 684, 685, 686, 689, 690, 693, 696, 697, 698, 699, 700, 701, 702, 703, 704, 705, 706, 707, 708, 709, 712, 713, 714, 715, 716, 717, 718, 719, 720, 721, 722, 723, 726, 729, 730, 731, 732, 733, 734, 735, 736, 737, 740, 741, 742, 743, 744, 745, 746, 749, 752, 753, 754, 755, 756, 757, 758, 759, 760, 761, 762, 763, 764, 765, 768, 769, 770, 771, 772, 773, 774, 775, 776, 777, 778, 779, 782, 785, 786, 787, 790, 793, 794] : List Nat).getD i 0
theorem d12_law_0 : decode code 0 = .ok (.new 7, 3) := by decide +kernel
theorem d12_law_3 : decode code 3 = .ok (.dup, 1) := by decide +kernel
theorem d12_law_4 : decode code 4 = .ok (.invokespecial 9, 3) := by decide +kernel
theorem d12_law_7 : decode code 7 = .ok (.astore_n 1, 1) := by decide +kernel
theorem d12_law_8 : decode code 8 = .ok (.new 10, 3) := by decide +kernel
theorem d12_law_11 : decode code 11 = .ok (.dup, 1) := by decide +kernel
theorem d12_law_12 : decode code 12 = .ok (.invokespecial 12, 3) := by decide +kernel
theorem d12_law_15 : decode code 15 = .ok (.astore_n 2, 1) := by decide +kernel
theorem d12_law_16 : decode code 16 = .ok (.iconst 0, 1) := by decide +kernel
theorem d12_law_17 : decode code 17 = .ok (.istore_n 3, 1) := by decide +kernel
theorem d12_law_18 : decode code 18 = .ok (.iload_n 3, 1) := by decide +kernel
theorem d12_law_19 : decode code 19 = .ok (.aload_n 0, 1) := by decide +kernel
theorem d12_law_20 : decode code 20 = .ok (.arraylength, 1) := by decide +kernel
theorem d12_law_21 : decode code 21 = .ok (.iconst 4, 1) := by decide +kernel
theorem d12_law_22 : decode code 22 = .ok (.isub, 1) := by decide +kernel
theorem d12_law_23 : decode code 23 = .ok (.if_icmp .gt 770, 3) := by decide +kernel
theorem d12_law_26 : decode code 26 = .ok (.aload_n 0, 1) := by decide +kernel
theorem d12_law_27 : decode code 27 = .ok (.iload_n 3, 1) := by decide +kernel
theorem d12_law_28 : decode code 28 = .ok (.iaload, 1) := by decide +kernel
theorem d12_law_29 : decode code 29 = .ok (.bipush 31, 2) := by decide +kernel
theorem d12_law_31 : decode code 31 = .ok (.iand, 1) := by decide +kernel
theorem d12_law_32 : decode code 32 = .ok (.tableswitch 755 0 20 #[100, 133, 156, 199, 232, 265, 298, 347, 396, 429, 472, 495, 538, 571, 594, 607, 630, 653, 666, 699, 722], 100) := by decide +kernel
theorem d12_law_132 : decode code 132 = .ok (.aload_n 1, 1) := by decide +kernel
theorem d12_law_133 : decode code 133 = .ok (.aload_n 0, 1) := by decide +kernel
theorem d12_law_134 : decode code 134 = .ok (.iload_n 3, 1) := by decide +kernel
theorem d12_law_135 : decode code 135 = .ok (.iconst 1, 1) := by decide +kernel
theorem d12_law_136 : decode code 136 = .ok (.iadd, 1) := by decide +kernel
theorem d12_law_137 : decode code 137 = .ok (.iaload, 1) := by decide +kernel
theorem d12_law_138 : decode code 138 = .ok (.aload_n 0, 1) := by decide +kernel
theorem d12_law_139 : decode code 139 = .ok (.iload_n 3, 1) := by decide +kernel
theorem d12_law_140 : decode code 140 = .ok (.iconst 2, 1) := by decide +kernel
theorem d12_law_141 : decode code 141 = .ok (.iadd, 1) := by decide +kernel
theorem d12_law_142 : decode code 142 = .ok (.iaload, 1) := by decide +kernel
theorem d12_law_143 : decode code 143 = .ok (.invokevirtual 13, 3) := by decide +kernel
theorem d12_law_146 : decode code 146 = .ok (.aload_n 2, 1) := by decide +kernel
theorem d12_law_147 : decode code 147 = .ok (.aload_n 0, 1) := by decide +kernel
theorem d12_law_148 : decode code 148 = .ok (.iload_n 3, 1) := by decide +kernel
theorem d12_law_149 : decode code 149 = .ok (.iconst 1, 1) := by decide +kernel
theorem d12_law_150 : decode code 150 = .ok (.iadd, 1) := by decide +kernel
theorem d12_law_151 : decode code 151 = .ok (.iaload, 1) := by decide +kernel
theorem d12_law_152 : decode code 152 = .ok (.aload_n 0, 1) := by decide +kernel
theorem d12_law_153 : decode code 153 = .ok (.iload_n 3, 1) := by decide +kernel
theorem d12_law_154 : decode code 154 = .ok (.iconst 2, 1) := by decide +kernel
theorem d12_law_155 : decode code 155 = .ok (.iadd, 1) := by decide +kernel
theorem d12_law_156 : decode code 156 = .ok (.iaload, 1) := by decide +kernel
theorem d12_law_157 : decode code 157 = .ok (.invokevirtual 17, 3) := by decide +kernel
theorem d12_law_160 : decode code 160 = .ok (.if_icmp .eq 627, 3) := by decide +kernel
theorem d12_law_163 : decode code 163 = .ok (.iconst 0, 1) := by decide +kernel
theorem d12_law_164 : decode code 164 = .ok (.ireturn, 1) := by decide +kernel
theorem d12_law_165 : decode code 165 = .ok (.aload_n 1, 1) := by decide +kernel
theorem d12_law_166 : decode code 166 = .ok (.aload_n 0, 1) := by decide +kernel
theorem d12_law_167 : decode code 167 = .ok (.iload_n 3, 1) := by decide +kernel
theorem d12_law_168 : decode code 168 = .ok (.iconst 1, 1) := by decide +kernel
theorem d12_law_169 : decode code 169 = .ok (.iadd, 1) := by decide +kernel
theorem d12_law_170 : decode code 170 = .ok (.iaload, 1) := by decide +kernel
theorem d12_law_171 : decode code 171 = .ok (.invokevirtual 18, 3) := by decide +kernel
theorem d12_law_174 : decode code 174 = .ok (.aload_n 2, 1) := by decide +kernel
theorem d12_law_175 : decode code 175 = .ok (.aload_n 0, 1) := by decide +kernel
theorem d12_law_176 : decode code 176 = .ok (.iload_n 3, 1) := by decide +kernel
theorem d12_law_177 : decode code 177 = .ok (.iconst 1, 1) := by decide +kernel
theorem d12_law_178 : decode code 178 = .ok (.iadd, 1) := by decide +kernel
theorem d12_law_179 : decode code 179 = .ok (.iaload, 1) := by decide +kernel
theorem d12_law_180 : decode code 180 = .ok (.invokevirtual 22, 3) := by decide +kernel
theorem d12_law_183 : decode code 183 = .ok (.if_icmp .eq 604, 3) := by decide +kernel
theorem d12_law_186 : decode code 186 = .ok (.iconst 0, 1) := by decide +kernel
theorem d12_law_187 : decode code 187 = .ok (.ireturn, 1) := by decide +kernel
theorem d12_law_188 : decode code 188 = .ok (.aload_n 1, 1) := by decide +kernel
theorem d12_law_189 : decode code 189 = .ok (.aload_n 0, 1) := by decide +kernel
theorem d12_law_190 : decode code 190 = .ok (.iload_n 3, 1) := by decide +kernel
theorem d12_law_191 : decode code 191 = .ok (.iconst 1, 1) := by decide +kernel
theorem d12_law_192 : decode code 192 = .ok (.iadd, 1) := by decide +kernel
theorem d12_law_193 : decode code 193 = .ok (.iaload, 1) := by decide +kernel
theorem d12_law_194 : decode code 194 = .ok (.aload_n 0, 1) := by decide +kernel
theorem d12_law_195 : decode code 195 = .ok (.iload_n 3, 1) := by decide +kernel
theorem d12_law_196 : decode code 196 = .ok (.iconst 2, 1) := by decide +kernel
theorem d12_law_197 : decode code 197 = .ok (.iadd, 1) := by decide +kernel
theorem d12_law_198 : decode code 198 = .ok (.iaload, 1) := by decide +kernel
theorem d12_law_199 : decode code 199 = .ok (.aload_n 0, 1) := by decide +kernel
theorem d12_law_200 : decode code 200 = .ok (.iload_n 3, 1) := by decide +kernel
theorem d12_law_201 : decode code 201 = .ok (.iconst 3, 1) := by decide +kernel
theorem d12_law_202 : decode code 202 = .ok (.iadd, 1) := by decide +kernel
theorem d12_law_203 : decode code 203 = .ok (.iaload, 1) := by decide +kernel
theorem d12_law_204 : decode code 204 = .ok (.invokevirtual 23, 3) := by decide +kernel
theorem d12_law_207 : decode code 207 = .ok (.aload_n 2, 1) := by decide +kernel
theorem d12_law_208 : decode code 208 = .ok (.aload_n 0, 1) := by decide +kernel
theorem d12_law_209 : decode code 209 = .ok (.iload_n 3, 1) := by decide +kernel
theorem d12_law_210 : decode code 210 = .ok (.iconst 1, 1) := by decide +kernel
theorem d12_law_211 : decode code 211 = .ok (.iadd, 1) := by decide +kernel
theorem d12_law_212 : decode code 212 = .ok (.iaload, 1) := by decide +kernel
theorem d12_law_213 : decode code 213 = .ok (.aload_n 0, 1) := by decide +kernel
theorem d12_law_214 : decode code 214 = .ok (.iload_n 3, 1) := by decide +kernel
theorem d12_law_215 : decode code 215 = .ok (.iconst 2, 1) := by decide +kernel
theorem d12_law_216 : decode code 216 = .ok (.iadd, 1) := by decide +kernel
theorem d12_law_217 : decode code 217 = .ok (.iaload, 1) := by decide +kernel
theorem d12_law_218 : decode code 218 = .ok (.aload_n 0, 1) := by decide +kernel
theorem d12_law_219 : decode code 219 = .ok (.iload_n 3, 1) := by decide +kernel
theorem d12_law_220 : decode code 220 = .ok (.iconst 3, 1) := by decide +kernel
theorem d12_law_221 : decode code 221 = .ok (.iadd, 1) := by decide +kernel
theorem d12_law_222 : decode code 222 = .ok (.iaload, 1) := by decide +kernel
theorem d12_law_223 : decode code 223 = .ok (.invokevirtual 27, 3) := by decide +kernel
theorem d12_law_226 : decode code 226 = .ok (.if_icmp .eq 561, 3) := by decide +kernel
theorem d12_law_229 : decode code 229 = .ok (.iconst 0, 1) := by decide +kernel
theorem d12_law_230 : decode code 230 = .ok (.ireturn, 1) := by decide +kernel
theorem d12_law_231 : decode code 231 = .ok (.aload_n 1, 1) := by decide +kernel
theorem d12_law_232 : decode code 232 = .ok (.aload_n 0, 1) := by decide +kernel
theorem d12_law_233 : decode code 233 = .ok (.iload_n 3, 1) := by decide +kernel
theorem d12_law_234 : decode code 234 = .ok (.iconst 1, 1) := by decide +kernel
theorem d12_law_235 : decode code 235 = .ok (.iadd, 1) := by decide +kernel
theorem d12_law_236 : decode code 236 = .ok (.iaload, 1) := by decide +kernel
theorem d12_law_237 : decode code 237 = .ok (.aload_n 0, 1) := by decide +kernel
theorem d12_law_238 : decode code 238 = .ok (.iload_n 3, 1) := by decide +kernel
theorem d12_law_239 : decode code 239 = .ok (.iconst 2, 1) := by decide +kernel
theorem d12_law_240 : decode code 240 = .ok (.iadd, 1) := by decide +kernel
theorem d12_law_241 : decode code 241 = .ok (.iaload, 1) := by decide +kernel
theorem d12_law_242 : decode code 242 = .ok (.invokevirtual 28, 3) := by decide +kernel
theorem d12_law_245 : decode code 245 = .ok (.aload_n 2, 1) := by decide +kernel
theorem d12_law_246 : decode code 246 = .ok (.aload_n 0, 1) := by decide +kernel
theorem d12_law_247 : decode code 247 = .ok (.iload_n 3, 1) := by decide +kernel
theorem d12_law_248 : decode code 248 = .ok (.iconst 1, 1) := by decide +kernel
theorem d12_law_249 : decode code 249 = .ok (.iadd, 1) := by decide +kernel
theorem d12_law_250 : decode code 250 = .ok (.iaload, 1) := by decide +kernel
theorem d12_law_251 : decode code 251 = .ok (.aload_n 0, 1) := by decide +kernel
theorem d12_law_252 : decode code 252 = .ok (.iload_n 3, 1) := by decide +kernel
theorem d12_law_253 : decode code 253 = .ok (.iconst 2, 1) := by decide +kernel
theorem d12_law_254 : decode code 254 = .ok (.iadd, 1) := by decide +kernel
theorem d12_law_255 : decode code 255 = .ok (.iaload, 1) := by decide +kernel
theorem d12_law_256 : decode code 256 = .ok (.invokevirtual 31, 3) := by decide +kernel
theorem d12_law_259 : decode code 259 = .ok (.if_icmp .eq 528, 3) := by decide +kernel
theorem d12_law_262 : decode code 262 = .ok (.iconst 0, 1) := by decide +kernel
theorem d12_law_263 : decode code 263 = .ok (.ireturn, 1) := by decide +kernel
theorem d12_law_264 : decode code 264 = .ok (.aload_n 1, 1) := by decide +kernel
theorem d12_law_265 : decode code 265 = .ok (.aload_n 0, 1) := by decide +kernel
theorem d12_law_266 : decode code 266 = .ok (.iload_n 3, 1) := by decide +kernel
theorem d12_law_267 : decode code 267 = .ok (.iconst 1, 1) := by decide +kernel
theorem d12_law_268 : decode code 268 = .ok (.iadd, 1) := by decide +kernel
theorem d12_law_269 : decode code 269 = .ok (.iaload, 1) := by decide +kernel
theorem d12_law_270 : decode code 270 = .ok (.aload_n 0, 1) := by decide +kernel
theorem d12_law_271 : decode code 271 = .ok (.iload_n 3, 1) := by decide +kernel
theorem d12_law_272 : decode code 272 = .ok (.iconst 2, 1) := by decide +kernel
theorem d12_law_273 : decode code 273 = .ok (.iadd, 1) := by decide +kernel
theorem d12_law_274 : decode code 274 = .ok (.iaload, 1) := by decide +kernel
theorem d12_law_275 : decode code 275 = .ok (.invokevirtual 32, 3) := by decide +kernel
theorem d12_law_278 : decode code 278 = .ok (.aload_n 2, 1) := by decide +kernel
theorem d12_law_279 : decode code 279 = .ok (.aload_n 0, 1) := by decide +kernel
theorem d12_law_280 : decode code 280 = .ok (.iload_n 3, 1) := by decide +kernel
theorem d12_law_281 : decode code 281 = .ok (.iconst 1, 1) := by decide +kernel
theorem d12_law_282 : decode code 282 = .ok (.iadd, 1) := by decide +kernel
theorem d12_law_283 : decode code 283 = .ok (.iaload, 1) := by decide +kernel
theorem d12_law_284 : decode code 284 = .ok (.aload_n 0, 1) := by decide +kernel
theorem d12_law_285 : decode code 285 = .ok (.iload_n 3, 1) := by decide +kernel
theorem d12_law_286 : decode code 286 = .ok (.iconst 2, 1) := by decide +kernel
theorem d12_law_287 : decode code 287 = .ok (.iadd, 1) := by decide +kernel
theorem d12_law_288 : decode code 288 = .ok (.iaload, 1) := by decide +kernel
theorem d12_law_289 : decode code 289 = .ok (.invokevirtual 35, 3) := by decide +kernel
theorem d12_law_292 : decode code 292 = .ok (.if_icmp .eq 495, 3) := by decide +kernel
theorem d12_law_295 : decode code 295 = .ok (.iconst 0, 1) := by decide +kernel
theorem d12_law_296 : decode code 296 = .ok (.ireturn, 1) := by decide +kernel
theorem d12_law_297 : decode code 297 = .ok (.aload_n 1, 1) := by decide +kernel
theorem d12_law_298 : decode code 298 = .ok (.aload_n 0, 1) := by decide +kernel
theorem d12_law_299 : decode code 299 = .ok (.iload_n 3, 1) := by decide +kernel
theorem d12_law_300 : decode code 300 = .ok (.iconst 1, 1) := by decide +kernel
theorem d12_law_301 : decode code 301 = .ok (.iadd, 1) := by decide +kernel
theorem d12_law_302 : decode code 302 = .ok (.iaload, 1) := by decide +kernel
theorem d12_law_303 : decode code 303 = .ok (.aload_n 0, 1) := by decide +kernel
theorem d12_law_304 : decode code 304 = .ok (.iload_n 3, 1) := by decide +kernel
theorem d12_law_305 : decode code 305 = .ok (.iconst 2, 1) := by decide +kernel
theorem d12_law_306 : decode code 306 = .ok (.iadd, 1) := by decide +kernel
theorem d12_law_307 : decode code 307 = .ok (.iaload, 1) := by decide +kernel
theorem d12_law_308 : decode code 308 = .ok (.invokevirtual 36, 3) := by decide +kernel
theorem d12_law_311 : decode code 311 = .ok (.aload_n 2, 1) := by decide +kernel
theorem d12_law_312 : decode code 312 = .ok (.aload_n 0, 1) := by decide +kernel
theorem d12_law_313 : decode code 313 = .ok (.iload_n 3, 1) := by decide +kernel
theorem d12_law_314 : decode code 314 = .ok (.iconst 1, 1) := by decide +kernel
theorem d12_law_315 : decode code 315 = .ok (.iadd, 1) := by decide +kernel
theorem d12_law_316 : decode code 316 = .ok (.iaload, 1) := by decide +kernel
theorem d12_law_317 : decode code 317 = .ok (.aload_n 0, 1) := by decide +kernel
theorem d12_law_318 : decode code 318 = .ok (.iload_n 3, 1) := by decide +kernel
theorem d12_law_319 : decode code 319 = .ok (.iconst 2, 1) := by decide +kernel
theorem d12_law_320 : decode code 320 = .ok (.iadd, 1) := by decide +kernel
theorem d12_law_321 : decode code 321 = .ok (.iaload, 1) := by decide +kernel
theorem d12_law_322 : decode code 322 = .ok (.invokevirtual 39, 3) := by decide +kernel
theorem d12_law_325 : decode code 325 = .ok (.if_icmp .eq 462, 3) := by decide +kernel
theorem d12_law_328 : decode code 328 = .ok (.iconst 0, 1) := by decide +kernel
theorem d12_law_329 : decode code 329 = .ok (.ireturn, 1) := by decide +kernel
theorem d12_law_330 : decode code 330 = .ok (.aload_n 1, 1) := by decide +kernel
theorem d12_law_331 : decode code 331 = .ok (.aload_n 0, 1) := by decide +kernel
theorem d12_law_332 : decode code 332 = .ok (.iload_n 3, 1) := by decide +kernel
theorem d12_law_333 : decode code 333 = .ok (.iconst 1, 1) := by decide +kernel
theorem d12_law_334 : decode code 334 = .ok (.iadd, 1) := by decide +kernel
theorem d12_law_335 : decode code 335 = .ok (.iaload, 1) := by decide +kernel
theorem d12_law_336 : decode code 336 = .ok (.aload_n 0, 1) := by decide +kernel
theorem d12_law_337 : decode code 337 = .ok (.iload_n 3, 1) := by decide +kernel
theorem d12_law_338 : decode code 338 = .ok (.iconst 2, 1) := by decide +kernel
theorem d12_law_339 : decode code 339 = .ok (.iadd, 1) := by decide +kernel
theorem d12_law_340 : decode code 340 = .ok (.iaload, 1) := by decide +kernel
theorem d12_law_341 : decode code 341 = .ok (.ifCond .eq 7, 3) := by decide +kernel
theorem d12_law_344 : decode code 344 = .ok (.iconst 1, 1) := by decide +kernel
theorem d12_law_345 : decode code 345 = .ok (.goto 4, 3) := by decide +kernel
theorem d12_law_348 : decode code 348 = .ok (.iconst 0, 1) := by decide +kernel
theorem d12_law_349 : decode code 349 = .ok (.invokevirtual 40, 3) := by decide +kernel
theorem d12_law_352 : decode code 352 = .ok (.aload_n 2, 1) := by decide +kernel
theorem d12_law_353 : decode code 353 = .ok (.aload_n 0, 1) := by decide +kernel
theorem d12_law_354 : decode code 354 = .ok (.iload_n 3, 1) := by decide +kernel
theorem d12_law_355 : decode code 355 = .ok (.iconst 1, 1) := by decide +kernel
theorem d12_law_356 : decode code 356 = .ok (.iadd, 1) := by decide +kernel
theorem d12_law_357 : decode code 357 = .ok (.iaload, 1) := by decide +kernel
theorem d12_law_358 : decode code 358 = .ok (.aload_n 0, 1) := by decide +kernel
theorem d12_law_359 : decode code 359 = .ok (.iload_n 3, 1) := by decide +kernel
theorem d12_law_360 : decode code 360 = .ok (.iconst 2, 1) := by decide +kernel
theorem d12_law_361 : decode code 361 = .ok (.iadd, 1) := by decide +kernel
theorem d12_law_362 : decode code 362 = .ok (.iaload, 1) := by decide +kernel
theorem d12_law_363 : decode code 363 = .ok (.ifCond .eq 7, 3) := by decide +kernel
theorem d12_law_366 : decode code 366 = .ok (.iconst 1, 1) := by decide +kernel
theorem d12_law_367 : decode code 367 = .ok (.goto 4, 3) := by decide +kernel
theorem d12_law_370 : decode code 370 = .ok (.iconst 0, 1) := by decide +kernel
theorem d12_law_371 : decode code 371 = .ok (.invokevirtual 44, 3) := by decide +kernel
theorem d12_law_374 : decode code 374 = .ok (.if_icmp .eq 413, 3) := by decide +kernel
theorem d12_law_377 : decode code 377 = .ok (.iconst 0, 1) := by decide +kernel
theorem d12_law_378 : decode code 378 = .ok (.ireturn, 1) := by decide +kernel
theorem d12_law_379 : decode code 379 = .ok (.aload_n 1, 1) := by decide +kernel
theorem d12_law_380 : decode code 380 = .ok (.aload_n 0, 1) := by decide +kernel
theorem d12_law_381 : decode code 381 = .ok (.iload_n 3, 1) := by decide +kernel
theorem d12_law_382 : decode code 382 = .ok (.iconst 1, 1) := by decide +kernel
theorem d12_law_383 : decode code 383 = .ok (.iadd, 1) := by decide +kernel
theorem d12_law_384 : decode code 384 = .ok (.iaload, 1) := by decide +kernel
theorem d12_law_385 : decode code 385 = .ok (.aload_n 0, 1) := by decide +kernel
theorem d12_law_386 : decode code 386 = .ok (.iload_n 3, 1) := by decide +kernel
theorem d12_law_387 : decode code 387 = .ok (.iconst 2, 1) := by decide +kernel
theorem d12_law_388 : decode code 388 = .ok (.iadd, 1) := by decide +kernel
theorem d12_law_389 : decode code 389 = .ok (.iaload, 1) := by decide +kernel
theorem d12_law_390 : decode code 390 = .ok (.ifCond .eq 7, 3) := by decide +kernel
theorem d12_law_393 : decode code 393 = .ok (.iconst 1, 1) := by decide +kernel
theorem d12_law_394 : decode code 394 = .ok (.goto 4, 3) := by decide +kernel
theorem d12_law_397 : decode code 397 = .ok (.iconst 0, 1) := by decide +kernel
theorem d12_law_398 : decode code 398 = .ok (.invokevirtual 45, 3) := by decide +kernel
theorem d12_law_401 : decode code 401 = .ok (.aload_n 2, 1) := by decide +kernel
theorem d12_law_402 : decode code 402 = .ok (.aload_n 0, 1) := by decide +kernel
theorem d12_law_403 : decode code 403 = .ok (.iload_n 3, 1) := by decide +kernel
theorem d12_law_404 : decode code 404 = .ok (.iconst 1, 1) := by decide +kernel
theorem d12_law_405 : decode code 405 = .ok (.iadd, 1) := by decide +kernel
theorem d12_law_406 : decode code 406 = .ok (.iaload, 1) := by decide +kernel
theorem d12_law_407 : decode code 407 = .ok (.aload_n 0, 1) := by decide +kernel
theorem d12_law_408 : decode code 408 = .ok (.iload_n 3, 1) := by decide +kernel
theorem d12_law_409 : decode code 409 = .ok (.iconst 2, 1) := by decide +kernel
theorem d12_law_410 : decode code 410 = .ok (.iadd, 1) := by decide +kernel
theorem d12_law_411 : decode code 411 = .ok (.iaload, 1) := by decide +kernel
theorem d12_law_412 : decode code 412 = .ok (.ifCond .eq 7, 3) := by decide +kernel
theorem d12_law_415 : decode code 415 = .ok (.iconst 1, 1) := by decide +kernel
theorem d12_law_416 : decode code 416 = .ok (.goto 4, 3) := by decide +kernel
theorem d12_law_419 : decode code 419 = .ok (.iconst 0, 1) := by decide +kernel
theorem d12_law_420 : decode code 420 = .ok (.invokevirtual 48, 3) := by decide +kernel
theorem d12_law_423 : decode code 423 = .ok (.if_icmp .eq 364, 3) := by decide +kernel
theorem d12_law_426 : decode code 426 = .ok (.iconst 0, 1) := by decide +kernel
theorem d12_law_427 : decode code 427 = .ok (.ireturn, 1) := by decide +kernel
theorem d12_law_428 : decode code 428 = .ok (.aload_n 1, 1) := by decide +kernel
theorem d12_law_429 : decode code 429 = .ok (.aload_n 0, 1) := by decide +kernel
theorem d12_law_430 : decode code 430 = .ok (.iload_n 3, 1) := by decide +kernel
theorem d12_law_431 : decode code 431 = .ok (.iconst 1, 1) := by decide +kernel
theorem d12_law_432 : decode code 432 = .ok (.iadd, 1) := by decide +kernel
theorem d12_law_433 : decode code 433 = .ok (.iaload, 1) := by decide +kernel
theorem d12_law_434 : decode code 434 = .ok (.aload_n 0, 1) := by decide +kernel
theorem d12_law_435 : decode code 435 = .ok (.iload_n 3, 1) := by decide +kernel
theorem d12_law_436 : decode code 436 = .ok (.iconst 2, 1) := by decide +kernel
theorem d12_law_437 : decode code 437 = .ok (.iadd, 1) := by decide +kernel
theorem d12_law_438 : decode code 438 = .ok (.iaload, 1) := by decide +kernel
theorem d12_law_439 : decode code 439 = .ok (.invokevirtual 49, 3) := by decide +kernel
theorem d12_law_442 : decode code 442 = .ok (.aload_n 2, 1) := by decide +kernel
theorem d12_law_443 : decode code 443 = .ok (.aload_n 0, 1) := by decide +kernel
theorem d12_law_444 : decode code 444 = .ok (.iload_n 3, 1) := by decide +kernel
theorem d12_law_445 : decode code 445 = .ok (.iconst 1, 1) := by decide +kernel
theorem d12_law_446 : decode code 446 = .ok (.iadd, 1) := by decide +kernel
theorem d12_law_447 : decode code 447 = .ok (.iaload, 1) := by decide +kernel
theorem d12_law_448 : decode code 448 = .ok (.aload_n 0, 1) := by decide +kernel
theorem d12_law_449 : decode code 449 = .ok (.iload_n 3, 1) := by decide +kernel
theorem d12_law_450 : decode code 450 = .ok (.iconst 2, 1) := by decide +kernel
theorem d12_law_451 : decode code 451 = .ok (.iadd, 1) := by decide +kernel
theorem d12_law_452 : decode code 452 = .ok (.iaload, 1) := by decide +kernel
theorem d12_law_453 : decode code 453 = .ok (.invokevirtual 52, 3) := by decide +kernel
theorem d12_law_456 : decode code 456 = .ok (.if_icmp .eq 331, 3) := by decide +kernel
theorem d12_law_459 : decode code 459 = .ok (.iconst 0, 1) := by decide +kernel
theorem d12_law_460 : decode code 460 = .ok (.ireturn, 1) := by decide +kernel
theorem d12_law_461 : decode code 461 = .ok (.aload_n 1, 1) := by decide +kernel
theorem d12_law_462 : decode code 462 = .ok (.aload_n 0, 1) := by decide +kernel
theorem d12_law_463 : decode code 463 = .ok (.iload_n 3, 1) := by decide +kernel
theorem d12_law_464 : decode code 464 = .ok (.iconst 1, 1) := by decide +kernel
theorem d12_law_465 : decode code 465 = .ok (.iadd, 1) := by decide +kernel
theorem d12_law_466 : decode code 466 = .ok (.iaload, 1) := by decide +kernel
theorem d12_law_467 : decode code 467 = .ok (.aload_n 0, 1) := by decide +kernel
theorem d12_law_468 : decode code 468 = .ok (.iload_n 3, 1) := by decide +kernel
theorem d12_law_469 : decode code 469 = .ok (.iconst 2, 1) := by decide +kernel
theorem d12_law_470 : decode code 470 = .ok (.iadd, 1) := by decide +kernel
theorem d12_law_471 : decode code 471 = .ok (.iaload, 1) := by decide +kernel
theorem d12_law_472 : decode code 472 = .ok (.aload_n 0, 1) := by decide +kernel
theorem d12_law_473 : decode code 473 = .ok (.iload_n 3, 1) := by decide +kernel
theorem d12_law_474 : decode code 474 = .ok (.iconst 3, 1) := by decide +kernel
theorem d12_law_475 : decode code 475 = .ok (.iadd, 1) := by decide +kernel
theorem d12_law_476 : decode code 476 = .ok (.iaload, 1) := by decide +kernel
theorem d12_law_477 : decode code 477 = .ok (.invokevirtual 53, 3) := by decide +kernel
theorem d12_law_480 : decode code 480 = .ok (.aload_n 2, 1) := by decide +kernel
theorem d12_law_481 : decode code 481 = .ok (.aload_n 0, 1) := by decide +kernel
theorem d12_law_482 : decode code 482 = .ok (.iload_n 3, 1) := by decide +kernel
theorem d12_law_483 : decode code 483 = .ok (.iconst 1, 1) := by decide +kernel
theorem d12_law_484 : decode code 484 = .ok (.iadd, 1) := by decide +kernel
theorem d12_law_485 : decode code 485 = .ok (.iaload, 1) := by decide +kernel
theorem d12_law_486 : decode code 486 = .ok (.aload_n 0, 1) := by decide +kernel
theorem d12_law_487 : decode code 487 = .ok (.iload_n 3, 1) := by decide +kernel
theorem d12_law_488 : decode code 488 = .ok (.iconst 2, 1) := by decide +kernel
theorem d12_law_489 : decode code 489 = .ok (.iadd, 1) := by decide +kernel
theorem d12_law_490 : decode code 490 = .ok (.iaload, 1) := by decide +kernel
theorem d12_law_491 : decode code 491 = .ok (.aload_n 0, 1) := by decide +kernel
theorem d12_law_492 : decode code 492 = .ok (.iload_n 3, 1) := by decide +kernel
theorem d12_law_493 : decode code 493 = .ok (.iconst 3, 1) := by decide +kernel
theorem d12_law_494 : decode code 494 = .ok (.iadd, 1) := by decide +kernel
theorem d12_law_495 : decode code 495 = .ok (.iaload, 1) := by decide +kernel
theorem d12_law_496 : decode code 496 = .ok (.invokevirtual 56, 3) := by decide +kernel
theorem d12_law_499 : decode code 499 = .ok (.if_icmp .eq 288, 3) := by decide +kernel
theorem d12_law_502 : decode code 502 = .ok (.iconst 0, 1) := by decide +kernel
theorem d12_law_503 : decode code 503 = .ok (.ireturn, 1) := by decide +kernel
theorem d12_law_504 : decode code 504 = .ok (.aload_n 1, 1) := by decide +kernel
theorem d12_law_505 : decode code 505 = .ok (.aload_n 0, 1) := by decide +kernel
theorem d12_law_506 : decode code 506 = .ok (.iload_n 3, 1) := by decide +kernel
theorem d12_law_507 : decode code 507 = .ok (.iconst 1, 1) := by decide +kernel
theorem d12_law_508 : decode code 508 = .ok (.iadd, 1) := by decide +kernel
theorem d12_law_509 : decode code 509 = .ok (.iaload, 1) := by decide +kernel
theorem d12_law_510 : decode code 510 = .ok (.invokevirtual 57, 3) := by decide +kernel
theorem d12_law_513 : decode code 513 = .ok (.aload_n 2, 1) := by decide +kernel
theorem d12_law_514 : decode code 514 = .ok (.aload_n 0, 1) := by decide +kernel
theorem d12_law_515 : decode code 515 = .ok (.iload_n 3, 1) := by decide +kernel
theorem d12_law_516 : decode code 516 = .ok (.iconst 1, 1) := by decide +kernel
theorem d12_law_517 : decode code 517 = .ok (.iadd, 1) := by decide +kernel
theorem d12_law_518 : decode code 518 = .ok (.iaload, 1) := by decide +kernel
theorem d12_law_519 : decode code 519 = .ok (.invokevirtual 60, 3) := by decide +kernel
theorem d12_law_522 : decode code 522 = .ok (.if_icmp .eq 265, 3) := by decide +kernel
theorem d12_law_525 : decode code 525 = .ok (.iconst 0, 1) := by decide +kernel
theorem d12_law_526 : decode code 526 = .ok (.ireturn, 1) := by decide +kernel
theorem d12_law_527 : decode code 527 = .ok (.aload_n 1, 1) := by decide +kernel
theorem d12_law_528 : decode code 528 = .ok (.aload_n 0, 1) := by decide +kernel
theorem d12_law_529 : decode code 529 = .ok (.iload_n 3, 1) := by decide +kernel
theorem d12_law_530 : decode code 530 = .ok (.iconst 1, 1) := by decide +kernel
theorem d12_law_531 : decode code 531 = .ok (.iadd, 1) := by decide +kernel
theorem d12_law_532 : decode code 532 = .ok (.iaload, 1) := by decide +kernel
theorem d12_law_533 : decode code 533 = .ok (.aload_n 0, 1) := by decide +kernel
theorem d12_law_534 : decode code 534 = .ok (.iload_n 3, 1) := by decide +kernel
theorem d12_law_535 : decode code 535 = .ok (.iconst 2, 1) := by decide +kernel
theorem d12_law_536 : decode code 536 = .ok (.iadd, 1) := by decide +kernel
theorem d12_law_537 : decode code 537 = .ok (.iaload, 1) := by decide +kernel
theorem d12_law_538 : decode code 538 = .ok (.aload_n 0, 1) := by decide +kernel
theorem d12_law_539 : decode code 539 = .ok (.iload_n 3, 1) := by decide +kernel
theorem d12_law_540 : decode code 540 = .ok (.iconst 3, 1) := by decide +kernel
theorem d12_law_541 : decode code 541 = .ok (.iadd, 1) := by decide +kernel
theorem d12_law_542 : decode code 542 = .ok (.iaload, 1) := by decide +kernel
theorem d12_law_543 : decode code 543 = .ok (.invokevirtual 61, 3) := by decide +kernel
theorem d12_law_546 : decode code 546 = .ok (.aload_n 2, 1) := by decide +kernel
theorem d12_law_547 : decode code 547 = .ok (.aload_n 0, 1) := by decide +kernel
theorem d12_law_548 : decode code 548 = .ok (.iload_n 3, 1) := by decide +kernel
theorem d12_law_549 : decode code 549 = .ok (.iconst 1, 1) := by decide +kernel
theorem d12_law_550 : decode code 550 = .ok (.iadd, 1) := by decide +kernel
theorem d12_law_551 : decode code 551 = .ok (.iaload, 1) := by decide +kernel
theorem d12_law_552 : decode code 552 = .ok (.aload_n 0, 1) := by decide +kernel
theorem d12_law_553 : decode code 553 = .ok (.iload_n 3, 1) := by decide +kernel
theorem d12_law_554 : decode code 554 = .ok (.iconst 2, 1) := by decide +kernel
theorem d12_law_555 : decode code 555 = .ok (.iadd, 1) := by decide +kernel
theorem d12_law_556 : decode code 556 = .ok (.iaload, 1) := by decide +kernel
theorem d12_law_557 : decode code 557 = .ok (.aload_n 0, 1) := by decide +kernel
theorem d12_law_558 : decode code 558 = .ok (.iload_n 3, 1) := by decide +kernel
theorem d12_law_559 : decode code 559 = .ok (.iconst 3, 1) := by decide +kernel
theorem d12_law_560 : decode code 560 = .ok (.iadd, 1) := by decide +kernel
theorem d12_law_561 : decode code 561 = .ok (.iaload, 1) := by decide +kernel
theorem d12_law_562 : decode code 562 = .ok (.invokevirtual 64, 3) := by decide +kernel
theorem d12_law_565 : decode code 565 = .ok (.if_icmp .eq 222, 3) := by decide +kernel
theorem d12_law_568 : decode code 568 = .ok (.iconst 0, 1) := by decide +kernel
theorem d12_law_569 : decode code 569 = .ok (.ireturn, 1) := by decide +kernel
theorem d12_law_570 : decode code 570 = .ok (.aload_n 1, 1) := by decide +kernel
theorem d12_law_571 : decode code 571 = .ok (.aload_n 0, 1) := by decide +kernel
theorem d12_law_572 : decode code 572 = .ok (.iload_n 3, 1) := by decide +kernel
theorem d12_law_573 : decode code 573 = .ok (.iconst 1, 1) := by decide +kernel
theorem d12_law_574 : decode code 574 = .ok (.iadd, 1) := by decide +kernel
theorem d12_law_575 : decode code 575 = .ok (.iaload, 1) := by decide +kernel
theorem d12_law_576 : decode code 576 = .ok (.aload_n 0, 1) := by decide +kernel
theorem d12_law_577 : decode code 577 = .ok (.iload_n 3, 1) := by decide +kernel
theorem d12_law_578 : decode code 578 = .ok (.iconst 2, 1) := by decide +kernel
theorem d12_law_579 : decode code 579 = .ok (.iadd, 1) := by decide +kernel
theorem d12_law_580 : decode code 580 = .ok (.iaload, 1) := by decide +kernel
theorem d12_law_581 : decode code 581 = .ok (.invokevirtual 65, 3) := by decide +kernel
theorem d12_law_584 : decode code 584 = .ok (.aload_n 2, 1) := by decide +kernel
theorem d12_law_585 : decode code 585 = .ok (.aload_n 0, 1) := by decide +kernel
theorem d12_law_586 : decode code 586 = .ok (.iload_n 3, 1) := by decide +kernel
theorem d12_law_587 : decode code 587 = .ok (.iconst 1, 1) := by decide +kernel
theorem d12_law_588 : decode code 588 = .ok (.iadd, 1) := by decide +kernel
theorem d12_law_589 : decode code 589 = .ok (.iaload, 1) := by decide +kernel
theorem d12_law_590 : decode code 590 = .ok (.aload_n 0, 1) := by decide +kernel
theorem d12_law_591 : decode code 591 = .ok (.iload_n 3, 1) := by decide +kernel
theorem d12_law_592 : decode code 592 = .ok (.iconst 2, 1) := by decide +kernel
theorem d12_law_593 : decode code 593 = .ok (.iadd, 1) := by decide +kernel
theorem d12_law_594 : decode code 594 = .ok (.iaload, 1) := by decide +kernel
theorem d12_law_595 : decode code 595 = .ok (.invokevirtual 68, 3) := by decide +kernel
theorem d12_law_598 : decode code 598 = .ok (.if_icmp .eq 189, 3) := by decide +kernel
theorem d12_law_601 : decode code 601 = .ok (.iconst 0, 1) := by decide +kernel
theorem d12_law_602 : decode code 602 = .ok (.ireturn, 1) := by decide +kernel
theorem d12_law_603 : decode code 603 = .ok (.aload_n 1, 1) := by decide +kernel
theorem d12_law_604 : decode code 604 = .ok (.aload_n 0, 1) := by decide +kernel
theorem d12_law_605 : decode code 605 = .ok (.iload_n 3, 1) := by decide +kernel
theorem d12_law_606 : decode code 606 = .ok (.iconst 1, 1) := by decide +kernel
theorem d12_law_607 : decode code 607 = .ok (.iadd, 1) := by decide +kernel
theorem d12_law_608 : decode code 608 = .ok (.iaload, 1) := by decide +kernel
theorem d12_law_609 : decode code 609 = .ok (.invokevirtual 69, 3) := by decide +kernel
theorem d12_law_612 : decode code 612 = .ok (.aload_n 2, 1) := by decide +kernel
theorem d12_law_613 : decode code 613 = .ok (.aload_n 0, 1) := by decide +kernel
theorem d12_law_614 : decode code 614 = .ok (.iload_n 3, 1) := by decide +kernel
theorem d12_law_615 : decode code 615 = .ok (.iconst 1, 1) := by decide +kernel
theorem d12_law_616 : decode code 616 = .ok (.iadd, 1) := by decide +kernel
theorem d12_law_617 : decode code 617 = .ok (.iaload, 1) := by decide +kernel
theorem d12_law_618 : decode code 618 = .ok (.invokevirtual 72, 3) := by decide +kernel
theorem d12_law_621 : decode code 621 = .ok (.if_icmp .eq 166, 3) := by decide +kernel
theorem d12_law_624 : decode code 624 = .ok (.iconst 0, 1) := by decide +kernel
theorem d12_law_625 : decode code 625 = .ok (.ireturn, 1) := by decide +kernel
theorem d12_law_626 : decode code 626 = .ok (.aload_n 1, 1) := by decide +kernel
theorem d12_law_627 : decode code 627 = .ok (.invokevirtual 73, 3) := by decide +kernel
theorem d12_law_630 : decode code 630 = .ok (.aload_n 2, 1) := by decide +kernel
theorem d12_law_631 : decode code 631 = .ok (.invokevirtual 77, 3) := by decide +kernel
theorem d12_law_634 : decode code 634 = .ok (.if_icmp .eq 153, 3) := by decide +kernel
theorem d12_law_637 : decode code 637 = .ok (.iconst 0, 1) := by decide +kernel
theorem d12_law_638 : decode code 638 = .ok (.ireturn, 1) := by decide +kernel
theorem d12_law_639 : decode code 639 = .ok (.aload_n 1, 1) := by decide +kernel
theorem d12_law_640 : decode code 640 = .ok (.aload_n 0, 1) := by decide +kernel
theorem d12_law_641 : decode code 641 = .ok (.iload_n 3, 1) := by decide +kernel
theorem d12_law_642 : decode code 642 = .ok (.iconst 1, 1) := by decide +kernel
theorem d12_law_643 : decode code 643 = .ok (.iadd, 1) := by decide +kernel
theorem d12_law_644 : decode code 644 = .ok (.iaload, 1) := by decide +kernel
theorem d12_law_645 : decode code 645 = .ok (.invokevirtual 78, 3) := by decide +kernel
theorem d12_law_648 : decode code 648 = .ok (.aload_n 2, 1) := by decide +kernel
theorem d12_law_649 : decode code 649 = .ok (.aload_n 0, 1) := by decide +kernel
theorem d12_law_650 : decode code 650 = .ok (.iload_n 3, 1) := by decide +kernel
theorem d12_law_651 : decode code 651 = .ok (.iconst 1, 1) := by decide +kernel
theorem d12_law_652 : decode code 652 = .ok (.iadd, 1) := by decide +kernel
theorem d12_law_653 : decode code 653 = .ok (.iaload, 1) := by decide +kernel
theorem d12_law_654 : decode code 654 = .ok (.invokevirtual 81, 3) := by decide +kernel
theorem d12_law_657 : decode code 657 = .ok (.if_icmp .eq 130, 3) := by decide +kernel
theorem d12_law_660 : decode code 660 = .ok (.iconst 0, 1) := by decide +kernel
theorem d12_law_661 : decode code 661 = .ok (.ireturn, 1) := by decide +kernel
theorem d12_law_662 : decode code 662 = .ok (.aload_n 1, 1) := by decide +kernel
theorem d12_law_663 : decode code 663 = .ok (.aload_n 0, 1) := by decide +kernel
theorem d12_law_664 : decode code 664 = .ok (.iload_n 3, 1) := by decide +kernel
theorem d12_law_665 : decode code 665 = .ok (.iconst 1, 1) := by decide +kernel
theorem d12_law_666 : decode code 666 = .ok (.iadd, 1) := by decide +kernel
theorem d12_law_667 : decode code 667 = .ok (.iaload, 1) := by decide +kernel
theorem d12_law_668 : decode code 668 = .ok (.invokevirtual 82, 3) := by decide +kernel
theorem d12_law_671 : decode code 671 = .ok (.aload_n 2, 1) := by decide +kernel
theorem d12_law_672 : decode code 672 = .ok (.aload_n 0, 1) := by decide +kernel
theorem d12_law_673 : decode code 673 = .ok (.iload_n 3, 1) := by decide +kernel
theorem d12_law_674 : decode code 674 = .ok (.iconst 1, 1) := by decide +kernel
theorem d12_law_675 : decode code 675 = .ok (.iadd, 1) := by decide +kernel
theorem d12_law_676 : decode code 676 = .ok (.iaload, 1) := by decide +kernel
theorem d12_law_677 : decode code 677 = .ok (.invokevirtual 85, 3) := by decide +kernel
theorem d12_law_680 : decode code 680 = .ok (.if_icmp .eq 107, 3) := by decide +kernel
theorem d12_law_683 : decode code 683 = .ok (.iconst 0, 1) := by decide +kernel
theorem d12_law_684 : decode code 684 = .ok (.ireturn, 1) := by decide +kernel
theorem d12_law_685 : decode code 685 = .ok (.aload_n 1, 1) := by decide +kernel
theorem d12_law_686 : decode code 686 = .ok (.invokevirtual 86, 3) := by decide +kernel
theorem d12_law_689 : decode code 689 = .ok (.aload_n 2, 1) := by decide +kernel
theorem d12_law_690 : decode code 690 = .ok (.invokevirtual 89, 3) := by decide +kernel
theorem d12_law_693 : decode code 693 = .ok (.if_icmp .eq 94, 3) := by decide +kernel
theorem d12_law_696 : decode code 696 = .ok (.iconst 0, 1) := by decide +kernel
theorem d12_law_697 : decode code 697 = .ok (.ireturn, 1) := by decide +kernel
theorem d12_law_698 : decode code 698 = .ok (.aload_n 1, 1) := by decide +kernel
theorem d12_law_699 : decode code 699 = .ok (.aload_n 0, 1) := by decide +kernel
theorem d12_law_700 : decode code 700 = .ok (.iload_n 3, 1) := by decide +kernel
theorem d12_law_701 : decode code 701 = .ok (.iconst 1, 1) := by decide +kernel
theorem d12_law_702 : decode code 702 = .ok (.iadd, 1) := by decide +kernel
theorem d12_law_703 : decode code 703 = .ok (.iaload, 1) := by decide +kernel
theorem d12_law_704 : decode code 704 = .ok (.aload_n 0, 1) := by decide +kernel
theorem d12_law_705 : decode code 705 = .ok (.iload_n 3, 1) := by decide +kernel
theorem d12_law_706 : decode code 706 = .ok (.iconst 2, 1) := by decide +kernel
theorem d12_law_707 : decode code 707 = .ok (.iadd, 1) := by decide +kernel
theorem d12_law_708 : decode code 708 = .ok (.iaload, 1) := by decide +kernel
theorem d12_law_709 : decode code 709 = .ok (.invokevirtual 90, 3) := by decide +kernel
theorem d12_law_712 : decode code 712 = .ok (.aload_n 2, 1) := by decide +kernel
theorem d12_law_713 : decode code 713 = .ok (.aload_n 0, 1) := by decide +kernel
theorem d12_law_714 : decode code 714 = .ok (.iload_n 3, 1) := by decide +kernel
theorem d12_law_715 : decode code 715 = .ok (.iconst 1, 1) := by decide +kernel
theorem d12_law_716 : decode code 716 = .ok (.iadd, 1) := by decide +kernel
theorem d12_law_717 : decode code 717 = .ok (.iaload, 1) := by decide +kernel
theorem d12_law_718 : decode code 718 = .ok (.aload_n 0, 1) := by decide +kernel
theorem d12_law_719 : decode code 719 = .ok (.iload_n 3, 1) := by decide +kernel
theorem d12_law_720 : decode code 720 = .ok (.iconst 2, 1) := by decide +kernel
theorem d12_law_721 : decode code 721 = .ok (.iadd, 1) := by decide +kernel
theorem d12_law_722 : decode code 722 = .ok (.iaload, 1) := by decide +kernel
theorem d12_law_723 : decode code 723 = .ok (.invokevirtual 93, 3) := by decide +kernel
theorem d12_law_726 : decode code 726 = .ok (.if_icmp .eq 61, 3) := by decide +kernel
theorem d12_law_729 : decode code 729 = .ok (.iconst 0, 1) := by decide +kernel
theorem d12_law_730 : decode code 730 = .ok (.ireturn, 1) := by decide +kernel
theorem d12_law_731 : decode code 731 = .ok (.aload_n 1, 1) := by decide +kernel
theorem d12_law_732 : decode code 732 = .ok (.aload_n 0, 1) := by decide +kernel
theorem d12_law_733 : decode code 733 = .ok (.iload_n 3, 1) := by decide +kernel
theorem d12_law_734 : decode code 734 = .ok (.iconst 1, 1) := by decide +kernel
theorem d12_law_735 : decode code 735 = .ok (.iadd, 1) := by decide +kernel
theorem d12_law_736 : decode code 736 = .ok (.iaload, 1) := by decide +kernel
theorem d12_law_737 : decode code 737 = .ok (.invokevirtual 94, 3) := by decide +kernel
theorem d12_law_740 : decode code 740 = .ok (.aload_n 2, 1) := by decide +kernel
theorem d12_law_741 : decode code 741 = .ok (.aload_n 0, 1) := by decide +kernel
theorem d12_law_742 : decode code 742 = .ok (.iload_n 3, 1) := by decide +kernel
theorem d12_law_743 : decode code 743 = .ok (.iconst 1, 1) := by decide +kernel
theorem d12_law_744 : decode code 744 = .ok (.iadd, 1) := by decide +kernel
theorem d12_law_745 : decode code 745 = .ok (.iaload, 1) := by decide +kernel
theorem d12_law_746 : decode code 746 = .ok (.invokevirtual 97, 3) := by decide +kernel
theorem d12_law_749 : decode code 749 = .ok (.if_icmp .eq 38, 3) := by decide +kernel
theorem d12_law_752 : decode code 752 = .ok (.iconst 0, 1) := by decide +kernel
theorem d12_law_753 : decode code 753 = .ok (.ireturn, 1) := by decide +kernel
theorem d12_law_754 : decode code 754 = .ok (.aload_n 1, 1) := by decide +kernel
theorem d12_law_755 : decode code 755 = .ok (.aload_n 0, 1) := by decide +kernel
theorem d12_law_756 : decode code 756 = .ok (.iload_n 3, 1) := by decide +kernel
theorem d12_law_757 : decode code 757 = .ok (.iconst 1, 1) := by decide +kernel
theorem d12_law_758 : decode code 758 = .ok (.iadd, 1) := by decide +kernel
theorem d12_law_759 : decode code 759 = .ok (.iaload, 1) := by decide +kernel
theorem d12_law_760 : decode code 760 = .ok (.aload_n 0, 1) := by decide +kernel
theorem d12_law_761 : decode code 761 = .ok (.iload_n 3, 1) := by decide +kernel
theorem d12_law_762 : decode code 762 = .ok (.iconst 2, 1) := by decide +kernel
theorem d12_law_763 : decode code 763 = .ok (.iadd, 1) := by decide +kernel
theorem d12_law_764 : decode code 764 = .ok (.iaload, 1) := by decide +kernel
theorem d12_law_765 : decode code 765 = .ok (.invokevirtual 98, 3) := by decide +kernel
theorem d12_law_768 : decode code 768 = .ok (.aload_n 2, 1) := by decide +kernel
theorem d12_law_769 : decode code 769 = .ok (.aload_n 0, 1) := by decide +kernel
theorem d12_law_770 : decode code 770 = .ok (.iload_n 3, 1) := by decide +kernel
theorem d12_law_771 : decode code 771 = .ok (.iconst 1, 1) := by decide +kernel
theorem d12_law_772 : decode code 772 = .ok (.iadd, 1) := by decide +kernel
theorem d12_law_773 : decode code 773 = .ok (.iaload, 1) := by decide +kernel
theorem d12_law_774 : decode code 774 = .ok (.aload_n 0, 1) := by decide +kernel
theorem d12_law_775 : decode code 775 = .ok (.iload_n 3, 1) := by decide +kernel
theorem d12_law_776 : decode code 776 = .ok (.iconst 2, 1) := by decide +kernel
theorem d12_law_777 : decode code 777 = .ok (.iadd, 1) := by decide +kernel
theorem d12_law_778 : decode code 778 = .ok (.iaload, 1) := by decide +kernel
theorem d12_law_779 : decode code 779 = .ok (.invokevirtual 101, 3) := by decide +kernel
theorem d12_law_782 : decode code 782 = .ok (.if_icmp .eq 5, 3) := by decide +kernel
theorem d12_law_785 : decode code 785 = .ok (.iconst 0, 1) := by decide +kernel
theorem d12_law_786 : decode code 786 = .ok (.ireturn, 1) := by decide +kernel
theorem d12_law_787 : decode code 787 = .ok (.iinc 3 4, 3) := by decide +kernel
theorem d12_law_790 : decode code 790 = .ok (.goto (-772), 3) := by decide +kernel
theorem d12_law_793 : decode code 793 = .ok (.iconst 1, 1) := by decide +kernel
theorem d12_law_794 : decode code 794 = .ok (.ireturn, 1) := by decide +kernel
def t12_law (l : Launch) (L : Nat) (xs : Nat → Int32) : List ri_S := [i_nw 1 9 5 [.null, .null, .null, .null, .null] 600000 7302250,
  i_dup 2,
  i_callV 3 1 9 (ri_Ev l y9_init w9_init r9_init 100 43636) 100 43636 600000 7302250,
  i_as 4 1,
  i_nw 5 10 36 [.int 0, .null, .null, .null, .null, .int 0, .int 0, .int 0, .null, .null, .null, .null, .null, .null, .null, .null, .null, .null, .null, .null, .null, .null, .null, .null, .null, .null, .int 0, .null, .null, .null, .int 0, .null, .int 0, .null, .null, .int 0] 600000 7302250,
  i_dup 6,
  i_callV 7 1 10 (ri_Ev l y10_init w10_init r10_init 100 200000) 100 200000 600000 7302250,
  i_as 8 2,
  i_con 9 0,
  i_is 10 3,
  i_il 11 3,
  i_al 12 0,
  i_sln 13 L,
  i_con 14 4,
  i_bin 15 (fun x y => x - y),
  i_icmp 16 537 (fun x y => y < x),
  i_al 17 0,
  i_il 18 3,
  i_sld 19 L xs,
  i_con 20 31,
  i_bin 21 (fun x y => x &&& y),
  i_sw [(0, 22), (1, 49), (2, 66), (3, 103), (4, 130), (5, 157), (6, 184), (7, 219), (8, 254), (9, 281), (10, 318), (11, 335), (12, 372), (13, 399), (14, 416), (15, 423), (16, 440), (17, 457), (18, 464), (19, 491), (20, 508)] 535,
  i_al 23 1,
  i_al 24 0,
  i_il 25 3,
  i_con 26 1,
  i_bin 27 (fun x y => x + y),
  i_sld 28 L xs,
  i_al 29 0,
  i_il 30 3,
  i_con 31 2,
  i_bin 32 (fun x y => x + y),
  i_sld 33 L xs,
  i_callV 34 3 9 (ri_Ev l y9_key w9_key r9_key 0 0) 0 0 600000 7302250,
  i_al 35 2,
  i_al 36 0,
  i_il 37 3,
  i_con 38 1,
  i_bin 39 (fun x y => x + y),
  i_sld 40 L xs,
  i_al 41 0,
  i_il 42 3,
  i_con 43 2,
  i_bin 44 (fun x y => x + y),
  i_sld 45 L xs,
  i_callV 46 3 10 (ri_Ev l y10_key w10_key r10_key 0 0) 0 0 600000 7302250,
  i_icmp 47 535 (fun x y => x = y),
  i_con 48 0,
  i_lret,
  i_al 50 1,
  i_al 51 0,
  i_il 52 3,
  i_con 53 1,
  i_bin 54 (fun x y => x + y),
  i_sld 55 L xs,
  i_callV 56 2 9 (ri_Ev l y9_places w9_places r9_places 0 0) 0 0 600000 7302250,
  i_al 57 2,
  i_al 58 0,
  i_il 59 3,
  i_con 60 1,
  i_bin 61 (fun x y => x + y),
  i_sld 62 L xs,
  i_callV 63 2 10 (ri_Ev l y10_places w10_places r10_places 0 0) 0 0 600000 7302250,
  i_icmp 64 535 (fun x y => x = y),
  i_con 65 0,
  i_lret,
  i_al 67 1,
  i_al 68 0,
  i_il 69 3,
  i_con 70 1,
  i_bin 71 (fun x y => x + y),
  i_sld 72 L xs,
  i_al 73 0,
  i_il 74 3,
  i_con 75 2,
  i_bin 76 (fun x y => x + y),
  i_sld 77 L xs,
  i_al 78 0,
  i_il 79 3,
  i_con 80 3,
  i_bin 81 (fun x y => x + y),
  i_sld 82 L xs,
  i_callV 83 4 9 (ri_Ev l y9_given w9_given r9_given 0 0) 0 0 600000 7302250,
  i_al 84 2,
  i_al 85 0,
  i_il 86 3,
  i_con 87 1,
  i_bin 88 (fun x y => x + y),
  i_sld 89 L xs,
  i_al 90 0,
  i_il 91 3,
  i_con 92 2,
  i_bin 93 (fun x y => x + y),
  i_sld 94 L xs,
  i_al 95 0,
  i_il 96 3,
  i_con 97 3,
  i_bin 98 (fun x y => x + y),
  i_sld 99 L xs,
  i_callV 100 4 10 (ri_Ev l y10_given w10_given r10_given 0 0) 0 0 600000 7302250,
  i_icmp 101 535 (fun x y => x = y),
  i_con 102 0,
  i_lret,
  i_al 104 1,
  i_al 105 0,
  i_il 106 3,
  i_con 107 1,
  i_bin 108 (fun x y => x + y),
  i_sld 109 L xs,
  i_al 110 0,
  i_il 111 3,
  i_con 112 2,
  i_bin 113 (fun x y => x + y),
  i_sld 114 L xs,
  i_callV 115 3 9 (ri_Ev l y9_free w9_free r9_free 0 0) 0 0 600000 7302250,
  i_al 116 2,
  i_al 117 0,
  i_il 118 3,
  i_con 119 1,
  i_bin 120 (fun x y => x + y),
  i_sld 121 L xs,
  i_al 122 0,
  i_il 123 3,
  i_con 124 2,
  i_bin 125 (fun x y => x + y),
  i_sld 126 L xs,
  i_callV 127 3 10 (ri_Ev l y10_free w10_free r10_free 0 0) 0 0 600000 7302250,
  i_icmp 128 535 (fun x y => x = y),
  i_con 129 0,
  i_lret,
  i_al 131 1,
  i_al 132 0,
  i_il 133 3,
  i_con 134 1,
  i_bin 135 (fun x y => x + y),
  i_sld 136 L xs,
  i_al 137 0,
  i_il 138 3,
  i_con 139 2,
  i_bin 140 (fun x y => x + y),
  i_sld 141 L xs,
  i_callV 142 3 9 (ri_Ev l y9_figure w9_figure r9_figure 0 0) 0 0 600000 7302250,
  i_al 143 2,
  i_al 144 0,
  i_il 145 3,
  i_con 146 1,
  i_bin 147 (fun x y => x + y),
  i_sld 148 L xs,
  i_al 149 0,
  i_il 150 3,
  i_con 151 2,
  i_bin 152 (fun x y => x + y),
  i_sld 153 L xs,
  i_callV 154 3 10 (ri_Ev l y10_figure w10_figure r10_figure 0 0) 0 0 600000 7302250,
  i_icmp 155 535 (fun x y => x = y),
  i_con 156 0,
  i_lret,
  i_al 158 1,
  i_al 159 0,
  i_il 160 3,
  i_con 161 1,
  i_bin 162 (fun x y => x + y),
  i_sld 163 L xs,
  i_al 164 0,
  i_il 165 3,
  i_con 166 2,
  i_bin 167 (fun x y => x + y),
  i_sld 168 L xs,
  i_callV 169 3 9 (ri_Ev l y9_inversion w9_inversion r9_inversion 0 0) 0 0 600000 7302250,
  i_al 170 2,
  i_al 171 0,
  i_il 172 3,
  i_con 173 1,
  i_bin 174 (fun x y => x + y),
  i_sld 175 L xs,
  i_al 176 0,
  i_il 177 3,
  i_con 178 2,
  i_bin 179 (fun x y => x + y),
  i_sld 180 L xs,
  i_callV 181 3 10 (ri_Ev l y10_inversion w10_inversion r10_inversion 0 0) 0 0 600000 7302250,
  i_icmp 182 535 (fun x y => x = y),
  i_con 183 0,
  i_lret,
  i_al 185 1,
  i_al 186 0,
  i_il 187 3,
  i_con 188 1,
  i_bin 189 (fun x y => x + y),
  i_sld 190 L xs,
  i_al 191 0,
  i_il 192 3,
  i_con 193 2,
  i_bin 194 (fun x y => x + y),
  i_sld 195 L xs,
  i_if 196 198 (fun x => x = 0),
  i_con 197 1,
  i_goto 199,
  i_con 199 0,
  i_callV 200 3 9 (ri_Ev l y9_fermata w9_fermata r9_fermata 0 0) 0 0 600000 7302250,
  i_al 201 2,
  i_al 202 0,
  i_il 203 3,
  i_con 204 1,
  i_bin 205 (fun x y => x + y),
  i_sld 206 L xs,
  i_al 207 0,
  i_il 208 3,
  i_con 209 2,
  i_bin 210 (fun x y => x + y),
  i_sld 211 L xs,
  i_if 212 214 (fun x => x = 0),
  i_con 213 1,
  i_goto 215,
  i_con 215 0,
  i_callV 216 3 10 (ri_Ev l y10_fermata w10_fermata r10_fermata 0 0) 0 0 600000 7302250,
  i_icmp 217 535 (fun x y => x = y),
  i_con 218 0,
  i_lret,
  i_al 220 1,
  i_al 221 0,
  i_il 222 3,
  i_con 223 1,
  i_bin 224 (fun x y => x + y),
  i_sld 225 L xs,
  i_al 226 0,
  i_il 227 3,
  i_con 228 2,
  i_bin 229 (fun x y => x + y),
  i_sld 230 L xs,
  i_if 231 233 (fun x => x = 0),
  i_con 232 1,
  i_goto 234,
  i_con 234 0,
  i_callV 235 3 9 (ri_Ev l y9_style w9_style r9_style 0 0) 0 0 600000 7302250,
  i_al 236 2,
  i_al 237 0,
  i_il 238 3,
  i_con 239 1,
  i_bin 240 (fun x y => x + y),
  i_sld 241 L xs,
  i_al 242 0,
  i_il 243 3,
  i_con 244 2,
  i_bin 245 (fun x y => x + y),
  i_sld 246 L xs,
  i_if 247 249 (fun x => x = 0),
  i_con 248 1,
  i_goto 250,
  i_con 250 0,
  i_callV 251 3 10 (ri_Ev l y10_style w10_style r10_style 0 0) 0 0 600000 7302250,
  i_icmp 252 535 (fun x y => x = y),
  i_con 253 0,
  i_lret,
  i_al 255 1,
  i_al 256 0,
  i_il 257 3,
  i_con 258 1,
  i_bin 259 (fun x y => x + y),
  i_sld 260 L xs,
  i_al 261 0,
  i_il 262 3,
  i_con 263 2,
  i_bin 264 (fun x y => x + y),
  i_sld 265 L xs,
  i_callV 266 3 9 (ri_Ev l y9_cost w9_cost r9_cost 0 0) 0 0 600000 7302250,
  i_al 267 2,
  i_al 268 0,
  i_il 269 3,
  i_con 270 1,
  i_bin 271 (fun x y => x + y),
  i_sld 272 L xs,
  i_al 273 0,
  i_il 274 3,
  i_con 275 2,
  i_bin 276 (fun x y => x + y),
  i_sld 277 L xs,
  i_callV 278 3 10 (ri_Ev l y10_cost w10_cost r10_cost 0 0) 0 0 600000 7302250,
  i_icmp 279 535 (fun x y => x = y),
  i_con 280 0,
  i_lret,
  i_al 282 1,
  i_al 283 0,
  i_il 284 3,
  i_con 285 1,
  i_bin 286 (fun x y => x + y),
  i_sld 287 L xs,
  i_al 288 0,
  i_il 289 3,
  i_con 290 2,
  i_bin 291 (fun x y => x + y),
  i_sld 292 L xs,
  i_al 293 0,
  i_il 294 3,
  i_con 295 3,
  i_bin 296 (fun x y => x + y),
  i_sld 297 L xs,
  i_callV 298 4 9 (ri_Ev l y9_range w9_range r9_range 0 0) 0 0 600000 7302250,
  i_al 299 2,
  i_al 300 0,
  i_il 301 3,
  i_con 302 1,
  i_bin 303 (fun x y => x + y),
  i_sld 304 L xs,
  i_al 305 0,
  i_il 306 3,
  i_con 307 2,
  i_bin 308 (fun x y => x + y),
  i_sld 309 L xs,
  i_al 310 0,
  i_il 311 3,
  i_con 312 3,
  i_bin 313 (fun x y => x + y),
  i_sld 314 L xs,
  i_callV 315 4 10 (ri_Ev l y10_range w10_range r10_range 0 0) 0 0 600000 7302250,
  i_icmp 316 535 (fun x y => x = y),
  i_con 317 0,
  i_lret,
  i_al 319 1,
  i_al 320 0,
  i_il 321 3,
  i_con 322 1,
  i_bin 323 (fun x y => x + y),
  i_sld 324 L xs,
  i_callV 325 2 9 (ri_Ev l y9_solve w9_solve r9_solve 0 0) 0 0 600000 7302250,
  i_al 326 2,
  i_al 327 0,
  i_il 328 3,
  i_con 329 1,
  i_bin 330 (fun x y => x + y),
  i_sld 331 L xs,
  i_callV 332 2 10 (ri_Ev l y10_solve w10_solve r10_solve 0 0) 0 0 600000 7302250,
  i_icmp 333 535 (fun x y => x = y),
  i_con 334 0,
  i_lret,
  i_al 336 1,
  i_al 337 0,
  i_il 338 3,
  i_con 339 1,
  i_bin 340 (fun x y => x + y),
  i_sld 341 L xs,
  i_al 342 0,
  i_il 343 3,
  i_con 344 2,
  i_bin 345 (fun x y => x + y),
  i_sld 346 L xs,
  i_al 347 0,
  i_il 348 3,
  i_con 349 3,
  i_bin 350 (fun x y => x + y),
  i_sld 351 L xs,
  i_callV 352 4 9 (ri_Ev l y9_note w9_note r9_note 0 0) 0 0 600000 7302250,
  i_al 353 2,
  i_al 354 0,
  i_il 355 3,
  i_con 356 1,
  i_bin 357 (fun x y => x + y),
  i_sld 358 L xs,
  i_al 359 0,
  i_il 360 3,
  i_con 361 2,
  i_bin 362 (fun x y => x + y),
  i_sld 363 L xs,
  i_al 364 0,
  i_il 365 3,
  i_con 366 3,
  i_bin 367 (fun x y => x + y),
  i_sld 368 L xs,
  i_callV 369 4 10 (ri_Ev l y10_note w10_note r10_note 0 0) 0 0 600000 7302250,
  i_icmp 370 535 (fun x y => x = y),
  i_con 371 0,
  i_lret,
  i_al 373 1,
  i_al 374 0,
  i_il 375 3,
  i_con 376 1,
  i_bin 377 (fun x y => x + y),
  i_sld 378 L xs,
  i_al 379 0,
  i_il 380 3,
  i_con 381 2,
  i_bin 382 (fun x y => x + y),
  i_sld 383 L xs,
  i_callV 384 3 9 (ri_Ev l y9_chord w9_chord r9_chord 0 0) 0 0 600000 7302250,
  i_al 385 2,
  i_al 386 0,
  i_il 387 3,
  i_con 388 1,
  i_bin 389 (fun x y => x + y),
  i_sld 390 L xs,
  i_al 391 0,
  i_il 392 3,
  i_con 393 2,
  i_bin 394 (fun x y => x + y),
  i_sld 395 L xs,
  i_callV 396 3 10 (ri_Ev l y10_chord w10_chord r10_chord 0 0) 0 0 600000 7302250,
  i_icmp 397 535 (fun x y => x = y),
  i_con 398 0,
  i_lret,
  i_al 400 1,
  i_al 401 0,
  i_il 402 3,
  i_con 403 1,
  i_bin 404 (fun x y => x + y),
  i_sld 405 L xs,
  i_callV 406 2 9 (ri_Ev l y9_sum w9_sum r9_sum 0 0) 0 0 600000 7302250,
  i_al 407 2,
  i_al 408 0,
  i_il 409 3,
  i_con 410 1,
  i_bin 411 (fun x y => x + y),
  i_sld 412 L xs,
  i_callV 413 2 10 (ri_Ev l y10_sum w10_sum r10_sum 0 0) 0 0 600000 7302250,
  i_icmp 414 535 (fun x y => x = y),
  i_con 415 0,
  i_lret,
  i_al 417 1,
  i_callV 418 1 9 (ri_Ev l y9_least w9_least r9_least 0 0) 0 0 600000 7302250,
  i_al 419 2,
  i_callV 420 1 10 (ri_Ev l y10_least w10_least r10_least 0 0) 0 0 600000 7302250,
  i_icmp 421 535 (fun x y => x = y),
  i_con 422 0,
  i_lret,
  i_al 424 1,
  i_al 425 0,
  i_il 426 3,
  i_con 427 1,
  i_bin 428 (fun x y => x + y),
  i_sld 429 L xs,
  i_callV 430 2 9 (ri_Ev l y9_states w9_states r9_states 0 0) 0 0 600000 7302250,
  i_al 431 2,
  i_al 432 0,
  i_il 433 3,
  i_con 434 1,
  i_bin 435 (fun x y => x + y),
  i_sld 436 L xs,
  i_callV 437 2 10 (ri_Ev l y10_states w10_states r10_states 0 0) 0 0 600000 7302250,
  i_icmp 438 535 (fun x y => x = y),
  i_con 439 0,
  i_lret,
  i_al 441 1,
  i_al 442 0,
  i_il 443 3,
  i_con 444 1,
  i_bin 445 (fun x y => x + y),
  i_sld 446 L xs,
  i_callV 447 2 9 (ri_Ev l y9_blocked w9_blocked r9_blocked 0 0) 0 0 600000 7302250,
  i_al 448 2,
  i_al 449 0,
  i_il 450 3,
  i_con 451 1,
  i_bin 452 (fun x y => x + y),
  i_sld 453 L xs,
  i_callV 454 2 10 (ri_Ev l y10_blocked w10_blocked r10_blocked 0 0) 0 0 600000 7302250,
  i_icmp 455 535 (fun x y => x = y),
  i_con 456 0,
  i_lret,
  i_al 458 1,
  i_callV 459 1 9 (ri_Ev l y9_repair w9_repair r9_repair 0 0) 0 0 600000 7302250,
  i_al 460 2,
  i_callV 461 1 10 (ri_Ev l y10_repair w10_repair r10_repair 0 0) 0 0 600000 7302250,
  i_icmp 462 535 (fun x y => x = y),
  i_con 463 0,
  i_lret,
  i_al 465 1,
  i_al 466 0,
  i_il 467 3,
  i_con 468 1,
  i_bin 469 (fun x y => x + y),
  i_sld 470 L xs,
  i_al 471 0,
  i_il 472 3,
  i_con 473 2,
  i_bin 474 (fun x y => x + y),
  i_sld 475 L xs,
  i_callV 476 3 9 (ri_Ev l y9_passing w9_passing r9_passing 0 0) 0 0 600000 7302250,
  i_al 477 2,
  i_al 478 0,
  i_il 479 3,
  i_con 480 1,
  i_bin 481 (fun x y => x + y),
  i_sld 482 L xs,
  i_al 483 0,
  i_il 484 3,
  i_con 485 2,
  i_bin 486 (fun x y => x + y),
  i_sld 487 L xs,
  i_callV 488 3 10 (ri_Ev l y10_passing w10_passing r10_passing 0 0) 0 0 600000 7302250,
  i_icmp 489 535 (fun x y => x = y),
  i_con 490 0,
  i_lret,
  i_al 492 1,
  i_al 493 0,
  i_il 494 3,
  i_con 495 1,
  i_bin 496 (fun x y => x + y),
  i_sld 497 L xs,
  i_callV 498 2 9 (ri_Ev l y9_count w9_count r9_count 0 0) 0 0 600000 7302250,
  i_al 499 2,
  i_al 500 0,
  i_il 501 3,
  i_con 502 1,
  i_bin 503 (fun x y => x + y),
  i_sld 504 L xs,
  i_callV 505 2 10 (ri_Ev l y10_count w10_count r10_count 0 0) 0 0 600000 7302250,
  i_icmp 506 535 (fun x y => x = y),
  i_con 507 0,
  i_lret,
  i_al 509 1,
  i_al 510 0,
  i_il 511 3,
  i_con 512 1,
  i_bin 513 (fun x y => x + y),
  i_sld 514 L xs,
  i_al 515 0,
  i_il 516 3,
  i_con 517 2,
  i_bin 518 (fun x y => x + y),
  i_sld 519 L xs,
  i_callV 520 3 9 (ri_Ev l y9_member w9_member r9_member 0 0) 0 0 600000 7302250,
  i_al 521 2,
  i_al 522 0,
  i_il 523 3,
  i_con 524 1,
  i_bin 525 (fun x y => x + y),
  i_sld 526 L xs,
  i_al 527 0,
  i_il 528 3,
  i_con 529 2,
  i_bin 530 (fun x y => x + y),
  i_sld 531 L xs,
  i_callV 532 3 10 (ri_Ev l y10_member w10_member r10_member 0 0) 0 0 600000 7302250,
  i_icmp 533 535 (fun x y => x = y),
  i_con 534 0,
  i_lret,
  i_inc 536 3 4,
  i_goto 10,
  i_con 538 1,
  i_lret]
set_option maxRecDepth 20000 in
set_option maxHeartbeats 4000000 in
theorem z12_law (l : Launch) (p : Program) (e : Env) (s : State) (m : MethodId) (below : List Frame) (meth : Method) (c : Code) (D : va_G) (ka : Nat → ClassId) (sa : Nat → Nat) {b L : Nat} {xs : Nat → Int32} (X : ri_X p s m #[Value.ref b] c code 4 ri_gT "ChoraleSearchLaw" D ka sa s.heap.size) (hX : va_X b L xs s s.heap) (hbl : b < s.heap.size) (h15 : sa 15 = b) (hret : meth.sig.returnType = ret) (hlocks : meth.locks = false) : ri_clo (ri_W p l e room_1 s m #[Value.ref b] below meth c D ka sa s.heap.size 4 (lw_Z below #[Value.ref b] s) p12_law) (t12_law l L xs) := by
  refine ri_clo_of ?_
  unfold t12_law
  exact ⟨s_new X (ci := 9) rfl uC_9 tC_9 oC_9 fC_9 rfl mgw_16 mgw_17 mgw_1 d12_law_0 rfl,
    s_dup X d12_law_3 rfl,
    s_callI ri_NW_ok X (na := 0) (ci := 9) rfl ⟨ri_cL X 0 mgw_20 mgw_1 mgw_18 (by decide +kernel) rfl rfl ⟨by decide, by decide⟩, rfl, X.2.2.2.2.1 _ mgw_19⟩ d12_law_4 rfl,
    s_astore_n X d12_law_7 rfl (by decide) rfl,
    s_new X (ci := 10) rfl uC_10 tC_10 oC_10 fC_10 rfl mgw_808 mgw_809 mgw_12 d12_law_8 rfl,
    s_dup X d12_law_11 rfl,
    s_callI ri_NW_ok X (na := 0) (ci := 10) rfl ⟨ri_cL X 0 mgw_812 mgw_12 mgw_810 (by decide +kernel) rfl rfl ⟨by decide, by decide⟩, rfl, X.2.2.2.2.1 _ mgw_811⟩ d12_law_12 rfl,
    s_astore_n X d12_law_15 rfl (by decide) rfl,
    s_iconst X d12_law_16 rfl rfl,
    s_istore_n X d12_law_17 rfl (by decide) rfl,
    s_iload_n X d12_law_18 rfl rfl,
    s_aload_n X d12_law_19 rfl rfl,
    s_sln X hX hbl h15 d12_law_20 rfl,
    s_iconst X d12_law_21 rfl rfl,
    s_isub X d12_law_22 rfl,
    s_icmp_gt X d12_law_23 rfl rfl,
    s_aload_n X d12_law_26 rfl rfl,
    s_iload_n X d12_law_27 rfl rfl,
    s_sld X hX hbl h15 d12_law_28 rfl,
    s_bipush X d12_law_29 rfl rfl,
    s_iand X d12_law_31 rfl,
    s_tsw X d12_law_32 rfl (by decide) (by decide) (by decide),
    s_aload_n X d12_law_132 rfl rfl,
    s_aload_n X d12_law_133 rfl rfl,
    s_iload_n X d12_law_134 rfl rfl,
    s_iconst X d12_law_135 rfl rfl,
    s_iadd X d12_law_136 rfl,
    s_sld X hX hbl h15 d12_law_137 rfl,
    s_aload_n X d12_law_138 rfl rfl,
    s_iload_n X d12_law_139 rfl rfl,
    s_iconst X d12_law_140 rfl rfl,
    s_iadd X d12_law_141 rfl,
    s_sld X hX hbl h15 d12_law_142 rfl,
    s_callV ri_NW_ok X (na := 2) (ci := 9) rfl ⟨ri_cL X 2 mgw_344 mgw_1 mgw_341 (by decide +kernel) rfl rfl ⟨by decide, by decide⟩, X.2.2.2.2.1 _ mgw_342, X.2.2.2.2.1 _ mgw_343⟩ d12_law_143 rfl,
    s_aload_n X d12_law_146 rfl rfl,
    s_aload_n X d12_law_147 rfl rfl,
    s_iload_n X d12_law_148 rfl rfl,
    s_iconst X d12_law_149 rfl rfl,
    s_iadd X d12_law_150 rfl,
    s_sld X hX hbl h15 d12_law_151 rfl,
    s_aload_n X d12_law_152 rfl rfl,
    s_iload_n X d12_law_153 rfl rfl,
    s_iconst X d12_law_154 rfl rfl,
    s_iadd X d12_law_155 rfl,
    s_sld X hX hbl h15 d12_law_156 rfl,
    s_callV ri_NW_ok X (na := 2) (ci := 10) rfl ⟨ri_cL X 2 mgw_926 mgw_12 mgw_923 (by decide +kernel) rfl rfl ⟨by decide, by decide⟩, X.2.2.2.2.1 _ mgw_924, X.2.2.2.2.1 _ mgw_925⟩ d12_law_157 rfl,
    s_icmp_eq X d12_law_160 rfl rfl,
    s_iconst X d12_law_163 rfl rfl,
    s_lret X hret hlocks d12_law_164,
    s_aload_n X d12_law_165 rfl rfl,
    s_aload_n X d12_law_166 rfl rfl,
    s_iload_n X d12_law_167 rfl rfl,
    s_iconst X d12_law_168 rfl rfl,
    s_iadd X d12_law_169 rfl,
    s_sld X hX hbl h15 d12_law_170 rfl,
    s_callV ri_NW_ok X (na := 1) (ci := 9) rfl ⟨ri_cL X 1 mgw_361 mgw_1 mgw_358 (by decide +kernel) rfl rfl ⟨by decide, by decide⟩, X.2.2.2.2.1 _ mgw_359, X.2.2.2.2.1 _ mgw_360⟩ d12_law_171 rfl,
    s_aload_n X d12_law_174 rfl rfl,
    s_aload_n X d12_law_175 rfl rfl,
    s_iload_n X d12_law_176 rfl rfl,
    s_iconst X d12_law_177 rfl rfl,
    s_iadd X d12_law_178 rfl,
    s_sld X hX hbl h15 d12_law_179 rfl,
    s_callV ri_NW_ok X (na := 1) (ci := 10) rfl ⟨ri_cL X 1 mgw_934 mgw_12 mgw_931 (by decide +kernel) rfl rfl ⟨by decide, by decide⟩, X.2.2.2.2.1 _ mgw_932, X.2.2.2.2.1 _ mgw_933⟩ d12_law_180 rfl,
    s_icmp_eq X d12_law_183 rfl rfl,
    s_iconst X d12_law_186 rfl rfl,
    s_lret X hret hlocks d12_law_187,
    s_aload_n X d12_law_188 rfl rfl,
    s_aload_n X d12_law_189 rfl rfl,
    s_iload_n X d12_law_190 rfl rfl,
    s_iconst X d12_law_191 rfl rfl,
    s_iadd X d12_law_192 rfl,
    s_sld X hX hbl h15 d12_law_193 rfl,
    s_aload_n X d12_law_194 rfl rfl,
    s_iload_n X d12_law_195 rfl rfl,
    s_iconst X d12_law_196 rfl rfl,
    s_iadd X d12_law_197 rfl,
    s_sld X hX hbl h15 d12_law_198 rfl,
    s_aload_n X d12_law_199 rfl rfl,
    s_iload_n X d12_law_200 rfl rfl,
    s_iconst X d12_law_201 rfl rfl,
    s_iadd X d12_law_202 rfl,
    s_sld X hX hbl h15 d12_law_203 rfl,
    s_callV ri_NW_ok X (na := 3) (ci := 9) rfl ⟨ri_cL X 3 mgw_366 mgw_1 mgw_363 (by decide +kernel) rfl rfl ⟨by decide, by decide⟩, X.2.2.2.2.1 _ mgw_364, X.2.2.2.2.1 _ mgw_365⟩ d12_law_204 rfl,
    s_aload_n X d12_law_207 rfl rfl,
    s_aload_n X d12_law_208 rfl rfl,
    s_iload_n X d12_law_209 rfl rfl,
    s_iconst X d12_law_210 rfl rfl,
    s_iadd X d12_law_211 rfl,
    s_sld X hX hbl h15 d12_law_212 rfl,
    s_aload_n X d12_law_213 rfl rfl,
    s_iload_n X d12_law_214 rfl rfl,
    s_iconst X d12_law_215 rfl rfl,
    s_iadd X d12_law_216 rfl,
    s_sld X hX hbl h15 d12_law_217 rfl,
    s_aload_n X d12_law_218 rfl rfl,
    s_iload_n X d12_law_219 rfl rfl,
    s_iconst X d12_law_220 rfl rfl,
    s_iadd X d12_law_221 rfl,
    s_sld X hX hbl h15 d12_law_222 rfl,
    s_callV ri_NW_ok X (na := 3) (ci := 10) rfl ⟨ri_cL X 3 mgw_939 mgw_12 mgw_936 (by decide +kernel) rfl rfl ⟨by decide, by decide⟩, X.2.2.2.2.1 _ mgw_937, X.2.2.2.2.1 _ mgw_938⟩ d12_law_223 rfl,
    s_icmp_eq X d12_law_226 rfl rfl,
    s_iconst X d12_law_229 rfl rfl,
    s_lret X hret hlocks d12_law_230,
    s_aload_n X d12_law_231 rfl rfl,
    s_aload_n X d12_law_232 rfl rfl,
    s_iload_n X d12_law_233 rfl rfl,
    s_iconst X d12_law_234 rfl rfl,
    s_iadd X d12_law_235 rfl,
    s_sld X hX hbl h15 d12_law_236 rfl,
    s_aload_n X d12_law_237 rfl rfl,
    s_iload_n X d12_law_238 rfl rfl,
    s_iconst X d12_law_239 rfl rfl,
    s_iadd X d12_law_240 rfl,
    s_sld X hX hbl h15 d12_law_241 rfl,
    s_callV ri_NW_ok X (na := 2) (ci := 9) rfl ⟨ri_cL X 2 mgw_384 mgw_1 mgw_381 (by decide +kernel) rfl rfl ⟨by decide, by decide⟩, X.2.2.2.2.1 _ mgw_382, X.2.2.2.2.1 _ mgw_383⟩ d12_law_242 rfl,
    s_aload_n X d12_law_245 rfl rfl,
    s_aload_n X d12_law_246 rfl rfl,
    s_iload_n X d12_law_247 rfl rfl,
    s_iconst X d12_law_248 rfl rfl,
    s_iadd X d12_law_249 rfl,
    s_sld X hX hbl h15 d12_law_250 rfl,
    s_aload_n X d12_law_251 rfl rfl,
    s_iload_n X d12_law_252 rfl rfl,
    s_iconst X d12_law_253 rfl rfl,
    s_iadd X d12_law_254 rfl,
    s_sld X hX hbl h15 d12_law_255 rfl,
    s_callV ri_NW_ok X (na := 2) (ci := 10) rfl ⟨ri_cL X 2 mgw_950 mgw_12 mgw_947 (by decide +kernel) rfl rfl ⟨by decide, by decide⟩, X.2.2.2.2.1 _ mgw_948, X.2.2.2.2.1 _ mgw_949⟩ d12_law_256 rfl,
    s_icmp_eq X d12_law_259 rfl rfl,
    s_iconst X d12_law_262 rfl rfl,
    s_lret X hret hlocks d12_law_263,
    s_aload_n X d12_law_264 rfl rfl,
    s_aload_n X d12_law_265 rfl rfl,
    s_iload_n X d12_law_266 rfl rfl,
    s_iconst X d12_law_267 rfl rfl,
    s_iadd X d12_law_268 rfl,
    s_sld X hX hbl h15 d12_law_269 rfl,
    s_aload_n X d12_law_270 rfl rfl,
    s_iload_n X d12_law_271 rfl rfl,
    s_iconst X d12_law_272 rfl rfl,
    s_iadd X d12_law_273 rfl,
    s_sld X hX hbl h15 d12_law_274 rfl,
    s_callV ri_NW_ok X (na := 2) (ci := 9) rfl ⟨ri_cL X 2 mgw_388 mgw_1 mgw_385 (by decide +kernel) rfl rfl ⟨by decide, by decide⟩, X.2.2.2.2.1 _ mgw_386, X.2.2.2.2.1 _ mgw_387⟩ d12_law_275 rfl,
    s_aload_n X d12_law_278 rfl rfl,
    s_aload_n X d12_law_279 rfl rfl,
    s_iload_n X d12_law_280 rfl rfl,
    s_iconst X d12_law_281 rfl rfl,
    s_iadd X d12_law_282 rfl,
    s_sld X hX hbl h15 d12_law_283 rfl,
    s_aload_n X d12_law_284 rfl rfl,
    s_iload_n X d12_law_285 rfl rfl,
    s_iconst X d12_law_286 rfl rfl,
    s_iadd X d12_law_287 rfl,
    s_sld X hX hbl h15 d12_law_288 rfl,
    s_callV ri_NW_ok X (na := 2) (ci := 10) rfl ⟨ri_cL X 2 mgw_954 mgw_12 mgw_951 (by decide +kernel) rfl rfl ⟨by decide, by decide⟩, X.2.2.2.2.1 _ mgw_952, X.2.2.2.2.1 _ mgw_953⟩ d12_law_289 rfl,
    s_icmp_eq X d12_law_292 rfl rfl,
    s_iconst X d12_law_295 rfl rfl,
    s_lret X hret hlocks d12_law_296,
    s_aload_n X d12_law_297 rfl rfl,
    s_aload_n X d12_law_298 rfl rfl,
    s_iload_n X d12_law_299 rfl rfl,
    s_iconst X d12_law_300 rfl rfl,
    s_iadd X d12_law_301 rfl,
    s_sld X hX hbl h15 d12_law_302 rfl,
    s_aload_n X d12_law_303 rfl rfl,
    s_iload_n X d12_law_304 rfl rfl,
    s_iconst X d12_law_305 rfl rfl,
    s_iadd X d12_law_306 rfl,
    s_sld X hX hbl h15 d12_law_307 rfl,
    s_callV ri_NW_ok X (na := 2) (ci := 9) rfl ⟨ri_cL X 2 mgw_392 mgw_1 mgw_389 (by decide +kernel) rfl rfl ⟨by decide, by decide⟩, X.2.2.2.2.1 _ mgw_390, X.2.2.2.2.1 _ mgw_391⟩ d12_law_308 rfl,
    s_aload_n X d12_law_311 rfl rfl,
    s_aload_n X d12_law_312 rfl rfl,
    s_iload_n X d12_law_313 rfl rfl,
    s_iconst X d12_law_314 rfl rfl,
    s_iadd X d12_law_315 rfl,
    s_sld X hX hbl h15 d12_law_316 rfl,
    s_aload_n X d12_law_317 rfl rfl,
    s_iload_n X d12_law_318 rfl rfl,
    s_iconst X d12_law_319 rfl rfl,
    s_iadd X d12_law_320 rfl,
    s_sld X hX hbl h15 d12_law_321 rfl,
    s_callV ri_NW_ok X (na := 2) (ci := 10) rfl ⟨ri_cL X 2 mgw_960 mgw_12 mgw_957 (by decide +kernel) rfl rfl ⟨by decide, by decide⟩, X.2.2.2.2.1 _ mgw_958, X.2.2.2.2.1 _ mgw_959⟩ d12_law_322 rfl,
    s_icmp_eq X d12_law_325 rfl rfl,
    s_iconst X d12_law_328 rfl rfl,
    s_lret X hret hlocks d12_law_329,
    s_aload_n X d12_law_330 rfl rfl,
    s_aload_n X d12_law_331 rfl rfl,
    s_iload_n X d12_law_332 rfl rfl,
    s_iconst X d12_law_333 rfl rfl,
    s_iadd X d12_law_334 rfl,
    s_sld X hX hbl h15 d12_law_335 rfl,
    s_aload_n X d12_law_336 rfl rfl,
    s_iload_n X d12_law_337 rfl rfl,
    s_iconst X d12_law_338 rfl rfl,
    s_iadd X d12_law_339 rfl,
    s_sld X hX hbl h15 d12_law_340 rfl,
    s_if_eq X d12_law_341 rfl rfl,
    s_iconst X d12_law_344 rfl rfl,
    s_goto X d12_law_345 rfl,
    s_iconst X d12_law_348 rfl rfl,
    s_callV ri_NW_ok X (na := 2) (ci := 9) rfl ⟨ri_cL X 2 mgw_396 mgw_1 mgw_393 (by decide +kernel) rfl rfl ⟨by decide, by decide⟩, X.2.2.2.2.1 _ mgw_394, X.2.2.2.2.1 _ mgw_395⟩ d12_law_349 rfl,
    s_aload_n X d12_law_352 rfl rfl,
    s_aload_n X d12_law_353 rfl rfl,
    s_iload_n X d12_law_354 rfl rfl,
    s_iconst X d12_law_355 rfl rfl,
    s_iadd X d12_law_356 rfl,
    s_sld X hX hbl h15 d12_law_357 rfl,
    s_aload_n X d12_law_358 rfl rfl,
    s_iload_n X d12_law_359 rfl rfl,
    s_iconst X d12_law_360 rfl rfl,
    s_iadd X d12_law_361 rfl,
    s_sld X hX hbl h15 d12_law_362 rfl,
    s_if_eq X d12_law_363 rfl rfl,
    s_iconst X d12_law_366 rfl rfl,
    s_goto X d12_law_367 rfl,
    s_iconst X d12_law_370 rfl rfl,
    s_callV ri_NW_ok X (na := 2) (ci := 10) rfl ⟨ri_cL X 2 mgw_964 mgw_12 mgw_961 (by decide +kernel) rfl rfl ⟨by decide, by decide⟩, X.2.2.2.2.1 _ mgw_962, X.2.2.2.2.1 _ mgw_963⟩ d12_law_371 rfl,
    s_icmp_eq X d12_law_374 rfl rfl,
    s_iconst X d12_law_377 rfl rfl,
    s_lret X hret hlocks d12_law_378,
    s_aload_n X d12_law_379 rfl rfl,
    s_aload_n X d12_law_380 rfl rfl,
    s_iload_n X d12_law_381 rfl rfl,
    s_iconst X d12_law_382 rfl rfl,
    s_iadd X d12_law_383 rfl,
    s_sld X hX hbl h15 d12_law_384 rfl,
    s_aload_n X d12_law_385 rfl rfl,
    s_iload_n X d12_law_386 rfl rfl,
    s_iconst X d12_law_387 rfl rfl,
    s_iadd X d12_law_388 rfl,
    s_sld X hX hbl h15 d12_law_389 rfl,
    s_if_eq X d12_law_390 rfl rfl,
    s_iconst X d12_law_393 rfl rfl,
    s_goto X d12_law_394 rfl,
    s_iconst X d12_law_397 rfl rfl,
    s_callV ri_NW_ok X (na := 2) (ci := 9) rfl ⟨ri_cL X 2 mgw_400 mgw_1 mgw_397 (by decide +kernel) rfl rfl ⟨by decide, by decide⟩, X.2.2.2.2.1 _ mgw_398, X.2.2.2.2.1 _ mgw_399⟩ d12_law_398 rfl,
    s_aload_n X d12_law_401 rfl rfl,
    s_aload_n X d12_law_402 rfl rfl,
    s_iload_n X d12_law_403 rfl rfl,
    s_iconst X d12_law_404 rfl rfl,
    s_iadd X d12_law_405 rfl,
    s_sld X hX hbl h15 d12_law_406 rfl,
    s_aload_n X d12_law_407 rfl rfl,
    s_iload_n X d12_law_408 rfl rfl,
    s_iconst X d12_law_409 rfl rfl,
    s_iadd X d12_law_410 rfl,
    s_sld X hX hbl h15 d12_law_411 rfl,
    s_if_eq X d12_law_412 rfl rfl,
    s_iconst X d12_law_415 rfl rfl,
    s_goto X d12_law_416 rfl,
    s_iconst X d12_law_419 rfl rfl,
    s_callV ri_NW_ok X (na := 2) (ci := 10) rfl ⟨ri_cL X 2 mgw_968 mgw_12 mgw_965 (by decide +kernel) rfl rfl ⟨by decide, by decide⟩, X.2.2.2.2.1 _ mgw_966, X.2.2.2.2.1 _ mgw_967⟩ d12_law_420 rfl,
    s_icmp_eq X d12_law_423 rfl rfl,
    s_iconst X d12_law_426 rfl rfl,
    s_lret X hret hlocks d12_law_427,
    s_aload_n X d12_law_428 rfl rfl,
    s_aload_n X d12_law_429 rfl rfl,
    s_iload_n X d12_law_430 rfl rfl,
    s_iconst X d12_law_431 rfl rfl,
    s_iadd X d12_law_432 rfl,
    s_sld X hX hbl h15 d12_law_433 rfl,
    s_aload_n X d12_law_434 rfl rfl,
    s_iload_n X d12_law_435 rfl rfl,
    s_iconst X d12_law_436 rfl rfl,
    s_iadd X d12_law_437 rfl,
    s_sld X hX hbl h15 d12_law_438 rfl,
    s_callV ri_NW_ok X (na := 2) (ci := 9) rfl ⟨ri_cL X 2 mgw_407 mgw_1 mgw_404 (by decide +kernel) rfl rfl ⟨by decide, by decide⟩, X.2.2.2.2.1 _ mgw_405, X.2.2.2.2.1 _ mgw_406⟩ d12_law_439 rfl,
    s_aload_n X d12_law_442 rfl rfl,
    s_aload_n X d12_law_443 rfl rfl,
    s_iload_n X d12_law_444 rfl rfl,
    s_iconst X d12_law_445 rfl rfl,
    s_iadd X d12_law_446 rfl,
    s_sld X hX hbl h15 d12_law_447 rfl,
    s_aload_n X d12_law_448 rfl rfl,
    s_iload_n X d12_law_449 rfl rfl,
    s_iconst X d12_law_450 rfl rfl,
    s_iadd X d12_law_451 rfl,
    s_sld X hX hbl h15 d12_law_452 rfl,
    s_callV ri_NW_ok X (na := 2) (ci := 10) rfl ⟨ri_cL X 2 mgw_972 mgw_12 mgw_969 (by decide +kernel) rfl rfl ⟨by decide, by decide⟩, X.2.2.2.2.1 _ mgw_970, X.2.2.2.2.1 _ mgw_971⟩ d12_law_453 rfl,
    s_icmp_eq X d12_law_456 rfl rfl,
    s_iconst X d12_law_459 rfl rfl,
    s_lret X hret hlocks d12_law_460,
    s_aload_n X d12_law_461 rfl rfl,
    s_aload_n X d12_law_462 rfl rfl,
    s_iload_n X d12_law_463 rfl rfl,
    s_iconst X d12_law_464 rfl rfl,
    s_iadd X d12_law_465 rfl,
    s_sld X hX hbl h15 d12_law_466 rfl,
    s_aload_n X d12_law_467 rfl rfl,
    s_iload_n X d12_law_468 rfl rfl,
    s_iconst X d12_law_469 rfl rfl,
    s_iadd X d12_law_470 rfl,
    s_sld X hX hbl h15 d12_law_471 rfl,
    s_aload_n X d12_law_472 rfl rfl,
    s_iload_n X d12_law_473 rfl rfl,
    s_iconst X d12_law_474 rfl rfl,
    s_iadd X d12_law_475 rfl,
    s_sld X hX hbl h15 d12_law_476 rfl,
    s_callV ri_NW_ok X (na := 3) (ci := 9) rfl ⟨ri_cL X 3 mgw_411 mgw_1 mgw_408 (by decide +kernel) rfl rfl ⟨by decide, by decide⟩, X.2.2.2.2.1 _ mgw_409, X.2.2.2.2.1 _ mgw_410⟩ d12_law_477 rfl,
    s_aload_n X d12_law_480 rfl rfl,
    s_aload_n X d12_law_481 rfl rfl,
    s_iload_n X d12_law_482 rfl rfl,
    s_iconst X d12_law_483 rfl rfl,
    s_iadd X d12_law_484 rfl,
    s_sld X hX hbl h15 d12_law_485 rfl,
    s_aload_n X d12_law_486 rfl rfl,
    s_iload_n X d12_law_487 rfl rfl,
    s_iconst X d12_law_488 rfl rfl,
    s_iadd X d12_law_489 rfl,
    s_sld X hX hbl h15 d12_law_490 rfl,
    s_aload_n X d12_law_491 rfl rfl,
    s_iload_n X d12_law_492 rfl rfl,
    s_iconst X d12_law_493 rfl rfl,
    s_iadd X d12_law_494 rfl,
    s_sld X hX hbl h15 d12_law_495 rfl,
    s_callV ri_NW_ok X (na := 3) (ci := 10) rfl ⟨ri_cL X 3 mgw_978 mgw_12 mgw_975 (by decide +kernel) rfl rfl ⟨by decide, by decide⟩, X.2.2.2.2.1 _ mgw_976, X.2.2.2.2.1 _ mgw_977⟩ d12_law_496 rfl,
    s_icmp_eq X d12_law_499 rfl rfl,
    s_iconst X d12_law_502 rfl rfl,
    s_lret X hret hlocks d12_law_503,
    s_aload_n X d12_law_504 rfl rfl,
    s_aload_n X d12_law_505 rfl rfl,
    s_iload_n X d12_law_506 rfl rfl,
    s_iconst X d12_law_507 rfl rfl,
    s_iadd X d12_law_508 rfl,
    s_sld X hX hbl h15 d12_law_509 rfl,
    s_callV ri_NW_ok X (na := 1) (ci := 9) rfl ⟨ri_cL X 1 mgw_415 mgw_1 mgw_412 (by decide +kernel) rfl rfl ⟨by decide, by decide⟩, X.2.2.2.2.1 _ mgw_413, X.2.2.2.2.1 _ mgw_414⟩ d12_law_510 rfl,
    s_aload_n X d12_law_513 rfl rfl,
    s_aload_n X d12_law_514 rfl rfl,
    s_iload_n X d12_law_515 rfl rfl,
    s_iconst X d12_law_516 rfl rfl,
    s_iadd X d12_law_517 rfl,
    s_sld X hX hbl h15 d12_law_518 rfl,
    s_callV ri_NW_ok X (na := 1) (ci := 10) rfl ⟨ri_cL X 1 mgw_1028 mgw_12 mgw_1025 (by decide +kernel) rfl rfl ⟨by decide, by decide⟩, X.2.2.2.2.1 _ mgw_1026, X.2.2.2.2.1 _ mgw_1027⟩ d12_law_519 rfl,
    s_icmp_eq X d12_law_522 rfl rfl,
    s_iconst X d12_law_525 rfl rfl,
    s_lret X hret hlocks d12_law_526,
    s_aload_n X d12_law_527 rfl rfl,
    s_aload_n X d12_law_528 rfl rfl,
    s_iload_n X d12_law_529 rfl rfl,
    s_iconst X d12_law_530 rfl rfl,
    s_iadd X d12_law_531 rfl,
    s_sld X hX hbl h15 d12_law_532 rfl,
    s_aload_n X d12_law_533 rfl rfl,
    s_iload_n X d12_law_534 rfl rfl,
    s_iconst X d12_law_535 rfl rfl,
    s_iadd X d12_law_536 rfl,
    s_sld X hX hbl h15 d12_law_537 rfl,
    s_aload_n X d12_law_538 rfl rfl,
    s_iload_n X d12_law_539 rfl rfl,
    s_iconst X d12_law_540 rfl rfl,
    s_iadd X d12_law_541 rfl,
    s_sld X hX hbl h15 d12_law_542 rfl,
    s_callV ri_NW_ok X (na := 3) (ci := 9) rfl ⟨ri_cL X 3 mgw_649 mgw_1 mgw_646 (by decide +kernel) rfl rfl ⟨by decide, by decide⟩, X.2.2.2.2.1 _ mgw_647, X.2.2.2.2.1 _ mgw_648⟩ d12_law_543 rfl,
    s_aload_n X d12_law_546 rfl rfl,
    s_aload_n X d12_law_547 rfl rfl,
    s_iload_n X d12_law_548 rfl rfl,
    s_iconst X d12_law_549 rfl rfl,
    s_iadd X d12_law_550 rfl,
    s_sld X hX hbl h15 d12_law_551 rfl,
    s_aload_n X d12_law_552 rfl rfl,
    s_iload_n X d12_law_553 rfl rfl,
    s_iconst X d12_law_554 rfl rfl,
    s_iadd X d12_law_555 rfl,
    s_sld X hX hbl h15 d12_law_556 rfl,
    s_aload_n X d12_law_557 rfl rfl,
    s_iload_n X d12_law_558 rfl rfl,
    s_iconst X d12_law_559 rfl rfl,
    s_iadd X d12_law_560 rfl,
    s_sld X hX hbl h15 d12_law_561 rfl,
    s_callV ri_NW_ok X (na := 3) (ci := 10) rfl ⟨ri_cL X 3 mgw_1077 mgw_12 mgw_1074 (by decide +kernel) rfl rfl ⟨by decide, by decide⟩, X.2.2.2.2.1 _ mgw_1075, X.2.2.2.2.1 _ mgw_1076⟩ d12_law_562 rfl,
    s_icmp_eq X d12_law_565 rfl rfl,
    s_iconst X d12_law_568 rfl rfl,
    s_lret X hret hlocks d12_law_569,
    s_aload_n X d12_law_570 rfl rfl,
    s_aload_n X d12_law_571 rfl rfl,
    s_iload_n X d12_law_572 rfl rfl,
    s_iconst X d12_law_573 rfl rfl,
    s_iadd X d12_law_574 rfl,
    s_sld X hX hbl h15 d12_law_575 rfl,
    s_aload_n X d12_law_576 rfl rfl,
    s_iload_n X d12_law_577 rfl rfl,
    s_iconst X d12_law_578 rfl rfl,
    s_iadd X d12_law_579 rfl,
    s_sld X hX hbl h15 d12_law_580 rfl,
    s_callV ri_NW_ok X (na := 2) (ci := 9) rfl ⟨ri_cL X 2 mgw_662 mgw_1 mgw_659 (by decide +kernel) rfl rfl ⟨by decide, by decide⟩, X.2.2.2.2.1 _ mgw_660, X.2.2.2.2.1 _ mgw_661⟩ d12_law_581 rfl,
    s_aload_n X d12_law_584 rfl rfl,
    s_aload_n X d12_law_585 rfl rfl,
    s_iload_n X d12_law_586 rfl rfl,
    s_iconst X d12_law_587 rfl rfl,
    s_iadd X d12_law_588 rfl,
    s_sld X hX hbl h15 d12_law_589 rfl,
    s_aload_n X d12_law_590 rfl rfl,
    s_iload_n X d12_law_591 rfl rfl,
    s_iconst X d12_law_592 rfl rfl,
    s_iadd X d12_law_593 rfl,
    s_sld X hX hbl h15 d12_law_594 rfl,
    s_callV ri_NW_ok X (na := 2) (ci := 10) rfl ⟨ri_cL X 2 mgw_1085 mgw_12 mgw_1082 (by decide +kernel) rfl rfl ⟨by decide, by decide⟩, X.2.2.2.2.1 _ mgw_1083, X.2.2.2.2.1 _ mgw_1084⟩ d12_law_595 rfl,
    s_icmp_eq X d12_law_598 rfl rfl,
    s_iconst X d12_law_601 rfl rfl,
    s_lret X hret hlocks d12_law_602,
    s_aload_n X d12_law_603 rfl rfl,
    s_aload_n X d12_law_604 rfl rfl,
    s_iload_n X d12_law_605 rfl rfl,
    s_iconst X d12_law_606 rfl rfl,
    s_iadd X d12_law_607 rfl,
    s_sld X hX hbl h15 d12_law_608 rfl,
    s_callV ri_NW_ok X (na := 1) (ci := 9) rfl ⟨ri_cL X 1 mgw_667 mgw_1 mgw_664 (by decide +kernel) rfl rfl ⟨by decide, by decide⟩, X.2.2.2.2.1 _ mgw_665, X.2.2.2.2.1 _ mgw_666⟩ d12_law_609 rfl,
    s_aload_n X d12_law_612 rfl rfl,
    s_aload_n X d12_law_613 rfl rfl,
    s_iload_n X d12_law_614 rfl rfl,
    s_iconst X d12_law_615 rfl rfl,
    s_iadd X d12_law_616 rfl,
    s_sld X hX hbl h15 d12_law_617 rfl,
    s_callV ri_NW_ok X (na := 1) (ci := 10) rfl ⟨ri_cL X 1 mgw_1089 mgw_12 mgw_1086 (by decide +kernel) rfl rfl ⟨by decide, by decide⟩, X.2.2.2.2.1 _ mgw_1087, X.2.2.2.2.1 _ mgw_1088⟩ d12_law_618 rfl,
    s_icmp_eq X d12_law_621 rfl rfl,
    s_iconst X d12_law_624 rfl rfl,
    s_lret X hret hlocks d12_law_625,
    s_aload_n X d12_law_626 rfl rfl,
    s_callV ri_NW_ok X (na := 0) (ci := 9) rfl ⟨ri_cL X 0 mgw_671 mgw_1 mgw_668 (by decide +kernel) rfl rfl ⟨by decide, by decide⟩, X.2.2.2.2.1 _ mgw_669, X.2.2.2.2.1 _ mgw_670⟩ d12_law_627 rfl,
    s_aload_n X d12_law_630 rfl rfl,
    s_callV ri_NW_ok X (na := 0) (ci := 10) rfl ⟨ri_cL X 0 mgw_1093 mgw_12 mgw_1090 (by decide +kernel) rfl rfl ⟨by decide, by decide⟩, X.2.2.2.2.1 _ mgw_1091, X.2.2.2.2.1 _ mgw_1092⟩ d12_law_631 rfl,
    s_icmp_eq X d12_law_634 rfl rfl,
    s_iconst X d12_law_637 rfl rfl,
    s_lret X hret hlocks d12_law_638,
    s_aload_n X d12_law_639 rfl rfl,
    s_aload_n X d12_law_640 rfl rfl,
    s_iload_n X d12_law_641 rfl rfl,
    s_iconst X d12_law_642 rfl rfl,
    s_iadd X d12_law_643 rfl,
    s_sld X hX hbl h15 d12_law_644 rfl,
    s_callV ri_NW_ok X (na := 1) (ci := 9) rfl ⟨ri_cL X 1 mgw_675 mgw_1 mgw_672 (by decide +kernel) rfl rfl ⟨by decide, by decide⟩, X.2.2.2.2.1 _ mgw_673, X.2.2.2.2.1 _ mgw_674⟩ d12_law_645 rfl,
    s_aload_n X d12_law_648 rfl rfl,
    s_aload_n X d12_law_649 rfl rfl,
    s_iload_n X d12_law_650 rfl rfl,
    s_iconst X d12_law_651 rfl rfl,
    s_iadd X d12_law_652 rfl,
    s_sld X hX hbl h15 d12_law_653 rfl,
    s_callV ri_NW_ok X (na := 1) (ci := 10) rfl ⟨ri_cL X 1 mgw_982 mgw_12 mgw_979 (by decide +kernel) rfl rfl ⟨by decide, by decide⟩, X.2.2.2.2.1 _ mgw_980, X.2.2.2.2.1 _ mgw_981⟩ d12_law_654 rfl,
    s_icmp_eq X d12_law_657 rfl rfl,
    s_iconst X d12_law_660 rfl rfl,
    s_lret X hret hlocks d12_law_661,
    s_aload_n X d12_law_662 rfl rfl,
    s_aload_n X d12_law_663 rfl rfl,
    s_iload_n X d12_law_664 rfl rfl,
    s_iconst X d12_law_665 rfl rfl,
    s_iadd X d12_law_666 rfl,
    s_sld X hX hbl h15 d12_law_667 rfl,
    s_callV ri_NW_ok X (na := 1) (ci := 9) rfl ⟨ri_cL X 1 mgw_679 mgw_1 mgw_676 (by decide +kernel) rfl rfl ⟨by decide, by decide⟩, X.2.2.2.2.1 _ mgw_677, X.2.2.2.2.1 _ mgw_678⟩ d12_law_668 rfl,
    s_aload_n X d12_law_671 rfl rfl,
    s_aload_n X d12_law_672 rfl rfl,
    s_iload_n X d12_law_673 rfl rfl,
    s_iconst X d12_law_674 rfl rfl,
    s_iadd X d12_law_675 rfl,
    s_sld X hX hbl h15 d12_law_676 rfl,
    s_callV ri_NW_ok X (na := 1) (ci := 10) rfl ⟨ri_cL X 1 mgw_1097 mgw_12 mgw_1094 (by decide +kernel) rfl rfl ⟨by decide, by decide⟩, X.2.2.2.2.1 _ mgw_1095, X.2.2.2.2.1 _ mgw_1096⟩ d12_law_677 rfl,
    s_icmp_eq X d12_law_680 rfl rfl,
    s_iconst X d12_law_683 rfl rfl,
    s_lret X hret hlocks d12_law_684,
    s_aload_n X d12_law_685 rfl rfl,
    s_callV ri_NW_ok X (na := 0) (ci := 9) rfl ⟨ri_cL X 0 mgw_757 mgw_1 mgw_754 (by decide +kernel) rfl rfl ⟨by decide, by decide⟩, X.2.2.2.2.1 _ mgw_755, X.2.2.2.2.1 _ mgw_756⟩ d12_law_686 rfl,
    s_aload_n X d12_law_689 rfl rfl,
    s_callV ri_NW_ok X (na := 0) (ci := 10) rfl ⟨ri_cL X 0 mgw_1106 mgw_12 mgw_1103 (by decide +kernel) rfl rfl ⟨by decide, by decide⟩, X.2.2.2.2.1 _ mgw_1104, X.2.2.2.2.1 _ mgw_1105⟩ d12_law_690 rfl,
    s_icmp_eq X d12_law_693 rfl rfl,
    s_iconst X d12_law_696 rfl rfl,
    s_lret X hret hlocks d12_law_697,
    s_aload_n X d12_law_698 rfl rfl,
    s_aload_n X d12_law_699 rfl rfl,
    s_iload_n X d12_law_700 rfl rfl,
    s_iconst X d12_law_701 rfl rfl,
    s_iadd X d12_law_702 rfl,
    s_sld X hX hbl h15 d12_law_703 rfl,
    s_aload_n X d12_law_704 rfl rfl,
    s_iload_n X d12_law_705 rfl rfl,
    s_iconst X d12_law_706 rfl rfl,
    s_iadd X d12_law_707 rfl,
    s_sld X hX hbl h15 d12_law_708 rfl,
    s_callV ri_NW_ok X (na := 2) (ci := 9) rfl ⟨ri_cL X 2 mgw_779 mgw_1 mgw_776 (by decide +kernel) rfl rfl ⟨by decide, by decide⟩, X.2.2.2.2.1 _ mgw_777, X.2.2.2.2.1 _ mgw_778⟩ d12_law_709 rfl,
    s_aload_n X d12_law_712 rfl rfl,
    s_aload_n X d12_law_713 rfl rfl,
    s_iload_n X d12_law_714 rfl rfl,
    s_iconst X d12_law_715 rfl rfl,
    s_iadd X d12_law_716 rfl,
    s_sld X hX hbl h15 d12_law_717 rfl,
    s_aload_n X d12_law_718 rfl rfl,
    s_iload_n X d12_law_719 rfl rfl,
    s_iconst X d12_law_720 rfl rfl,
    s_iadd X d12_law_721 rfl,
    s_sld X hX hbl h15 d12_law_722 rfl,
    s_callV ri_NW_ok X (na := 2) (ci := 10) rfl ⟨ri_cL X 2 mgw_1110 mgw_12 mgw_1107 (by decide +kernel) rfl rfl ⟨by decide, by decide⟩, X.2.2.2.2.1 _ mgw_1108, X.2.2.2.2.1 _ mgw_1109⟩ d12_law_723 rfl,
    s_icmp_eq X d12_law_726 rfl rfl,
    s_iconst X d12_law_729 rfl rfl,
    s_lret X hret hlocks d12_law_730,
    s_aload_n X d12_law_731 rfl rfl,
    s_aload_n X d12_law_732 rfl rfl,
    s_iload_n X d12_law_733 rfl rfl,
    s_iconst X d12_law_734 rfl rfl,
    s_iadd X d12_law_735 rfl,
    s_sld X hX hbl h15 d12_law_736 rfl,
    s_callV ri_NW_ok X (na := 1) (ci := 9) rfl ⟨ri_cL X 1 mgw_792 mgw_1 mgw_789 (by decide +kernel) rfl rfl ⟨by decide, by decide⟩, X.2.2.2.2.1 _ mgw_790, X.2.2.2.2.1 _ mgw_791⟩ d12_law_737 rfl,
    s_aload_n X d12_law_740 rfl rfl,
    s_aload_n X d12_law_741 rfl rfl,
    s_iload_n X d12_law_742 rfl rfl,
    s_iconst X d12_law_743 rfl rfl,
    s_iadd X d12_law_744 rfl,
    s_sld X hX hbl h15 d12_law_745 rfl,
    s_callV ri_NW_ok X (na := 1) (ci := 10) rfl ⟨ri_cL X 1 mgw_1114 mgw_12 mgw_1111 (by decide +kernel) rfl rfl ⟨by decide, by decide⟩, X.2.2.2.2.1 _ mgw_1112, X.2.2.2.2.1 _ mgw_1113⟩ d12_law_746 rfl,
    s_icmp_eq X d12_law_749 rfl rfl,
    s_iconst X d12_law_752 rfl rfl,
    s_lret X hret hlocks d12_law_753,
    s_aload_n X d12_law_754 rfl rfl,
    s_aload_n X d12_law_755 rfl rfl,
    s_iload_n X d12_law_756 rfl rfl,
    s_iconst X d12_law_757 rfl rfl,
    s_iadd X d12_law_758 rfl,
    s_sld X hX hbl h15 d12_law_759 rfl,
    s_aload_n X d12_law_760 rfl rfl,
    s_iload_n X d12_law_761 rfl rfl,
    s_iconst X d12_law_762 rfl rfl,
    s_iadd X d12_law_763 rfl,
    s_sld X hX hbl h15 d12_law_764 rfl,
    s_callV ri_NW_ok X (na := 2) (ci := 9) rfl ⟨ri_cL X 2 mgw_806 mgw_1 mgw_803 (by decide +kernel) rfl rfl ⟨by decide, by decide⟩, X.2.2.2.2.1 _ mgw_804, X.2.2.2.2.1 _ mgw_805⟩ d12_law_765 rfl,
    s_aload_n X d12_law_768 rfl rfl,
    s_aload_n X d12_law_769 rfl rfl,
    s_iload_n X d12_law_770 rfl rfl,
    s_iconst X d12_law_771 rfl rfl,
    s_iadd X d12_law_772 rfl,
    s_sld X hX hbl h15 d12_law_773 rfl,
    s_aload_n X d12_law_774 rfl rfl,
    s_iload_n X d12_law_775 rfl rfl,
    s_iconst X d12_law_776 rfl rfl,
    s_iadd X d12_law_777 rfl,
    s_sld X hX hbl h15 d12_law_778 rfl,
    s_callV ri_NW_ok X (na := 2) (ci := 10) rfl ⟨ri_cL X 2 mgw_1118 mgw_12 mgw_1115 (by decide +kernel) rfl rfl ⟨by decide, by decide⟩, X.2.2.2.2.1 _ mgw_1116, X.2.2.2.2.1 _ mgw_1117⟩ d12_law_779 rfl,
    s_icmp_eq X d12_law_782 rfl rfl,
    s_iconst X d12_law_785 rfl rfl,
    s_lret X hret hlocks d12_law_786,
    s_iinc X d12_law_787 rfl (by decide) rfl,
    s_goto X d12_law_790 rfl,
    s_iconst X d12_law_793 rfl rfl,
    s_lret X hret hlocks d12_law_794, trivial⟩
