/-! what is told, in whole numbers: T 0 given notes (0: none), T 1 figures (0: none, else chord + 1), T 2 inversions (likewise), T 3 fermatas, T 4 style, T 5 costs, T 6 lows, T 7 highs, T 8: tonic, minor, places -/
abbrev tT : Type := Nat → Nat → Nat
def mJ : List Nat := [0, 4, 7, 99, 2, 5, 9, 99, 4, 7, 11, 99, 5, 9, 0, 99, 7, 11, 2, 99, 9, 0, 4, 99, 11, 2, 5, 99, 7, 11, 2, 5, 2, 5, 9, 0, 2, 6, 9, 99, 2, 6, 9, 0, 4, 8, 11, 99, 0, 4, 7, 10]
def mN : List Nat := [0, 3, 7, 99, 2, 5, 8, 99, 3, 7, 10, 99, 5, 8, 0, 99, 7, 11, 2, 99, 8, 0, 3, 99, 11, 2, 5, 99, 7, 11, 2, 5, 2, 5, 8, 0, 2, 6, 9, 99, 2, 6, 9, 0, 3, 7, 10, 99, 0, 4, 7, 10]
def tdeg (T : tT) (c k : Nat) : Nat := (if T 8 1 = 1 then mN else mJ).getD (4 * c + k) 99
def tmem (T : tT) (c k : Nat) : Nat := if tdeg T c k = 99 then 99 else (T 8 0 + tdeg T c k) % 12
/-- which member of the chord the pitch is: 4 if none -/
def tmof (T : tT) (c p : Nat) : Nat := if tmem T c 0 = p % 12 then 0 else if tmem T c 1 = p % 12 then 1 else if tmem T c 2 = p % 12 then 2 else if tmem T c 3 = p % 12 then 3 else 4
/-- a state in one number -/
def pit (x v : Nat) : Nat := 36 + x / 2 ^ (4 + 6 * (3 - v)) % 64
def chd (x : Nat) : Nat := x % 16
def pk5 (s a t b c : Nat) : Nat := ((((s - 36) * 64 + (a - 36)) * 64 + (t - 36)) * 64 + (b - 36)) * 16 + c
theorem tdeg_lt (T : tT) : ∀ c k, tdeg T c k = 99 ∨ tdeg T c k < 12 := by
  intro c k
  unfold tdeg
  have hall : ∀ l : List Nat, (l.all (fun d => decide (d = 99 ∨ d < 12))) = true → ∀ i, l.getD i 99 = 99 ∨ l.getD i 99 < 12 := by
    intro l hl i
    rw [List.getD_eq_getElem?_getD]
    cases h : l[i]? with
    | none => left; rfl
    | some d =>
      have := List.all_eq_true.mp hl d (List.mem_of_getElem? h)
      simpa using this
  split
  · exact hall mN (by decide) _
  · exact hall mJ (by decide) _
theorem tmem_lt (T : tT) (c k : Nat) : tmem T c k = 99 ∨ tmem T c k < 12 := by
  unfold tmem
  split
  · exact Or.inl rfl
  · exact Or.inr (Nat.mod_lt _ (by decide))
/-- numbers as the program has them: 0 is 'none' -/
def nC (n : Nat) : Int32 := if n = 0 then -2 else nI n
def nD (n : Nat) : Int32 := if n = 0 then -2 else nI (n - 1)
def n9 (n : Nat) : Int32 := if n = 99 then -2 else nI n
/-- the grammar's units; 9: barred -/
def fnc (c : Nat) : Nat := [0, 1, 0, 1, 2, 0, 2, 2, 1, 3, 3, 3, 3].getD c 3
def unt (a b : Nat) : Nat :=
  if a = b then 3
  else if fnc a = 0 then (if fnc b = 0 then 2 else 0)
  else if fnc a = 1 then (if fnc b = 0 then (if a = 3 ∧ b = 0 then 2 else 4) else if fnc b = 1 then 2 else if fnc b = 2 then 0 else 1)
  else if fnc a = 2 then (if b = 0 then 0 else if b = 5 ∨ b = 12 then 2 else if b = 4 ∨ b = 6 then (if a = 7 then 3 else 1) else if b = 7 then 1 else 9)
  else if a = 9 then (if b = 10 then 1 else if b = 4 ∨ b = 7 then 0 else 9)
  else if a = 10 then (if b = 4 ∨ b = 7 then 0 else 9)
  else if a = 11 then (if b = 5 then 0 else 9)
  else (if b = 3 then 0 else 9)
def nU (n : Nat) : Int32 := if n = 9 then -1 else nI n
/-- a set of the 13 chords as bits -/
def msk (P : Nat → Bool) : Nat → Nat
  | 0 => 0
  | n + 1 => msk P n + (if P n then 2 ^ n else 0)
theorem msk_lt (P : Nat → Bool) : ∀ n, msk P n < 2 ^ n
  | 0 => by simp [msk]
  | n + 1 => by
    have := msk_lt P n
    unfold msk
    rw [Nat.pow_succ]
    split <;> omega
theorem msk_bit (P : Nat → Bool) : ∀ n i, (msk P n).testBit i = (decide (i < n) && P i)
  | 0, i => by simp [msk]
  | n + 1, i => by
    have ih := msk_bit P n
    have hl := msk_lt P n
    unfold msk
    cases hP : P n with
    | false =>
      simp only [Bool.false_eq_true, if_false, Nat.add_zero, ih]
      by_cases hi : i = n
      · subst hi; simp [hP]
      · by_cases h2 : i < n <;> simp [h2] <;> omega
    | true =>
      simp only [if_true]
      have e : msk P n + 2 ^ n = 2 ^ n ||| msk P n := by
        have := Nat.two_pow_add_eq_or_of_lt hl 1
        rw [Nat.mul_one] at this
        omega
      rw [e, Nat.testBit_or, Nat.testBit_two_pow, ih]
      by_cases hi : i = n
      · subst hi; simp [hP]
      · by_cases h2 : i < n
        · simp [h2, Ne.symm hi]; omega
        · simp [h2, Ne.symm hi]; omega
theorem nx_and (a b : Nat) : nI a &&& nI b = nI (a &&& b) := by
  apply Int32.toBitVec_inj.mp
  simp [nI]
theorem nx_or (a b : Nat) : nI a ||| nI b = nI (a ||| b) := by
  apply Int32.toBitVec_inj.mp
  simp [nI]
theorem msk_and (P Q : Nat → Bool) (n : Nat) : msk P n &&& msk Q n = msk (fun c => P c && Q c) n := by
  apply Nat.eq_of_testBit_eq
  intro i
  rw [Nat.testBit_and, msk_bit, msk_bit, msk_bit]
  cases decide (i < n) <;> simp
theorem sh_amt : ∀ k, k < 32 → ((nI k &&& 31).toBitVec.smod 32).toNat = k := by decide +kernel
theorem msk_shr (P : Nat → Bool) {n c : Nat} (hn : n ≤ 30) (hc : c < n) : (nI (msk P n) >>> (nI c &&& 31)) &&& 1 = zb (P c) := by
  have hl := msk_lt P n
  have hl2 : msk P n < 2 ^ 31 := Nat.lt_of_lt_of_le hl (Nat.pow_le_pow_right (by decide) (by omega))
  rw [pk_shrN hl2 _ c (sh_amt c (by omega)), show (1 : Int32) = nI 1 from rfl, nx_and]
  have hb := msk_bit P n c
  rw [decide_eq_true hc, Bool.true_and, Nat.testBit_eq_decide_div_mod_eq] at hb
  rw [Nat.and_one_is_mod]
  rw [← hb]
  rcases Nat.mod_two_eq_zero_or_one (msk P n / 2 ^ c) with h | h <;> rw [h] <;> rfl
theorem bit_shl {c : Nat} (hc : c < 30) : (1 : Int32) <<< (nI c &&& 31) = nI (2 ^ c) := by
  have h : 1 * 2 ^ c < 2 ^ 32 := by rw [Nat.one_mul]; exact Nat.pow_lt_pow_right (by decide) (by omega)
  have := pk_shlN (n := 1) (nI c &&& 31) c (sh_amt c (by omega)) h
  rw [Nat.one_mul] at this
  exact this
