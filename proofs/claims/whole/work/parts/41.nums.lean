/-! numbers, and the shapes of ends -/
def ri_is (v : Int32) (h0 : List ri_C) : ri_O := fun r h' => r = some (.int v) ∧ h' = h0
def ri_vo (h0 : List ri_C) : ri_O := fun r h' => r = none ∧ h' = h0
def zb (b : Bool) : Int32 := bif b then 1 else 0
theorem zb_ok (b : Bool) : narrow .boolean (.int (zb b)) = .int (zb b) := by cases b <;> rfl
theorem zb_0 {b : Bool} : zb b = 0 ↔ b = false := by cases b <;> decide
theorem zb_1 {b : Bool} : ¬ zb b = 0 ↔ b = true := by cases b <;> decide
theorem zb_t : zb true = 1 := rfl
theorem zb_f : zb false = 0 := rfl
/-- an array's contents changed, a number in a field changed -/
def fa (z : st_T) (p : Nat) (g : Nat → Int32) : st_T := (z.1, va_up z.2.1 p g, z.2.2)
def fs (z : st_T) (p f : Nat) (x : Int32) : st_T := (va_up z.1 p (va_up (z.1 p) f x), z.2.1, z.2.2)
theorem lt31 {a b : Nat} (h : a < b) (hb : b ≤ 2 ^ 31 := by decide) : a < 2 ^ 31 := Nat.lt_of_lt_of_le h hb
theorem nn_lt {a b : Nat} (ha : a < 2 ^ 31) (hb : b < 2 ^ 31) : (nI a < nI b) = (a < b) := propext (nI_ltI ha hb)
theorem nn_le {a b : Nat} (ha : a < 2 ^ 31) (hb : b < 2 ^ 31) : (nI a ≤ nI b) = (a ≤ b) := propext (nI_leI ha hb)
theorem nn_eq {a b : Nat} (ha : a < 2 ^ 31) (hb : b < 2 ^ 31) : (nI a = nI b) = (a = b) := propext (nI_eq ha hb)
theorem nn_or {a b k : Nat} (hb : b < 2 ^ k) : nI (a * 2 ^ k) ||| nI b = nI (a * 2 ^ k + b) := by
  have h : a * 2 ^ k + b = a * 2 ^ k ||| b := by
    rw [Nat.mul_comm]
    exact (Nat.two_pow_add_eq_or_of_lt hb a)
  rw [h]
  apply Int32.toBitVec_inj.mp
  simp [nI]
  apply BitVec.eq_of_toNat_eq
  simp [BitVec.toNat_or, Nat.or_mod_two_pow]
theorem nn_rem {a d : Nat} (ha : a < 2 ^ 31) (h0 : 0 < d) (hd : d < 2 ^ 31) : nI a - nI a / nI d * nI d = nI (a % d) := pk_rem ha h0 hd
theorem fa_self (z : st_T) (p : Nat) (g : Nat → Int32) : (fa z p g).2.1 p = g := va_up_self _ _ _
theorem fa_ne (z : st_T) {p q : Nat} (g : Nat → Int32) (h : q ≠ p) : (fa z p g).2.1 q = z.2.1 q := va_up_ne _ _ h
theorem fa_1 (z : st_T) (p : Nat) (g : Nat → Int32) : (fa z p g).1 = z.1 := rfl
theorem fs_self (z : st_T) (p f : Nat) (x : Int32) : (fs z p f x).1 p f = x := by
  show va_up z.1 p (va_up (z.1 p) f x) p f = x
  rw [va_up_self, va_up_self]
theorem fs_ne (z : st_T) {p q : Nat} (f : Nat) (x : Int32) (h : q ≠ p) : (fs z p f x).1 q = z.1 q := va_up_ne _ _ h
theorem fs_2 (z : st_T) (p f : Nat) (x : Int32) : (fs z p f x).2.1 = z.2.1 := rfl
