/-! AN ABSTRACT MACHINE over places. A reference is a place: below 16 a static table, from 16 on the cells of the heap in the order in which they were made. An instruction is a predicate transformer; a method is a list of them; whoever is closed under the list holds at the method's entry. -/
abbrev ri_C : Type := (Nat × Nat × ((Nat → Int32) ⊕ (Nat → Option Nat))) ⊕ (Nat × List Value)
abbrev ri_L : Type := List (Option Value)
abbrev ri_K : Type := Nat → Nat → Nat → ri_L → List Value → List ri_C → Prop
abbrev ri_S : Type := ri_K → Nat → Nat → ri_L → List Value → List ri_C → Prop
abbrev ri_O : Type := Option Value → List ri_C → Prop
def ri_at (h : List ri_C) (q : Nat) : Option ri_C := bif Nat.ble 16 q then h[q - 16]? else (ri_ST[q]?).map (fun t => .inl (0, t.2.2.2.1, .inl t.2.2.2.2))
-- the instructions
def i_con (n : Nat) (v : Int32) : ri_S := fun k U V L st h => k n U V L (.int v :: st) h
def i_il (n i : Nat) : ri_S := fun k U V L st h => match L[i]? with
  | some (some (.int x)) => k n U V L (.int x :: st) h
  | _ => False
def i_al (n i : Nat) : ri_S := fun k U V L st h => match L[i]? with
  | some (some (.ref x)) => k n U V L (.ref x :: st) h
  | _ => False
def i_is (n i : Nat) : ri_S := fun k U V L st h => match st with
  | .int x :: r => k n U V (L.set i (some (.int x))) r h
  | _ => False
def i_as (n i : Nat) : ri_S := fun k U V L st h => match st with
  | .ref x :: r => k n U V (L.set i (some (.ref x))) r h
  | _ => False
def i_inc (n i : Nat) (c : Int32) : ri_S := fun k U V L st h => match L[i]? with
  | some (some (.int x)) => k n U V (L.set i (some (.int (x + c)))) st h
  | _ => False
def i_bin (n : Nat) (f : Int32 → Int32 → Int32) : ri_S := fun k U V L st h => match st with
  | .int y :: .int x :: r => k n U V L (.int (f x y) :: r) h
  | _ => False
/-- a division or a rest: the divisor isn't 0 -/
def i_div (n : Nat) (f : Int32 → Int32 → Int32) : ri_S := fun k U V L st h => match st with
  | .int y :: .int x :: r => ¬ y = 0 ∧ k n U V L (.int (f x y) :: r) h
  | _ => False
def i_un (n : Nat) (f : Int32 → Int32) : ri_S := fun k U V L st h => match st with
  | .int x :: r => k n U V L (.int (f x) :: r) h
  | _ => False
def i_if (n t : Nat) (c : Int32 → Prop) : ri_S := fun k U V L st h => match st with
  | .int x :: r => (c x → k t U V L r h) ∧ (¬ c x → k n U V L r h)
  | _ => False
def i_icmp (n t : Nat) (c : Int32 → Int32 → Prop) : ri_S := fun k U V L st h => match st with
  | .int y :: .int x :: r => (c x y → k t U V L r h) ∧ (¬ c x y → k n U V L r h)
  | _ => False
def i_goto (t : Nat) : ri_S := fun k U V L st h => k t U V L st h
def ri_cat1 (v : Value) : Bool := match v with
  | .int _ => true
  | .ref _ => true
  | .null => true
  | _ => false
def i_dup (n : Nat) : ri_S := fun k U V L st h => match st with
  | a :: r => bif ri_cat1 a then k n U V L (a :: a :: r) h else False
  | _ => False
def i_pop (n : Nat) : ri_S := fun k U V L st h => match st with
  | a :: r => bif ri_cat1 a then k n U V L r h else False
  | _ => False
def i_dup2 (n : Nat) : ri_S := fun k U V L st h => match st with
  | a :: b :: r => bif ri_cat1 a && ri_cat1 b then k n U V L (a :: b :: a :: b :: r) h else False
  | _ => False
def i_dupx1 (n : Nat) : ri_S := fun k U V L st h => match st with
  | a :: b :: r => bif ri_cat1 a && ri_cat1 b then k n U V L (a :: b :: a :: r) h else False
  | _ => False
def i_dupx2 (n : Nat) : ri_S := fun k U V L st h => match st with
  | a :: b :: d :: r => bif ri_cat1 a && ri_cat1 b && ri_cat1 d then k n U V L (a :: b :: d :: a :: r) h else False
  | _ => False
def i_get (n ci f : Nat) : ri_S := fun k U V L st h => match st with
  | .ref q :: r => match ri_at h q with
    | some (.inr (c', fs)) => bif Nat.ble 16 q && Nat.beq c' ci then (match fs[f]? with
      | some v => k n U V L (v :: r) h
      | none => False) else False
    | _ => False
  | _ => False
/-- what may be put into a field: an int, a reference (a place of the heap or a table), null -/
def ri_isI (v : Value) : Bool := match v with
  | .int _ => true
  | _ => false
def ri_isR (v : Value) : Bool := match v with
  | .ref _ => true
  | .null => true
  | _ => false
def i_put (n ci f : Nat) (ok : Value → Bool) : ri_S := fun k U V L st h => match st with
  | v :: .ref q :: r => match ri_at h q with
    | some (.inr (c', fs)) => bif ok v && (Nat.ble 16 q && (Nat.beq c' ci && Nat.blt f fs.length)) then k n U V L r (h.set (q - 16) (.inr (c', fs.set f v))) else False
    | _ => False
  | _ => False
def i_gets (n q : Nat) : ri_S := fun k U V L st h => k n U V L (.ref q :: st) h
def i_ald (n kd : Nat) : ri_S := fun k U V L st h => match st with
  | .int i :: .ref q :: r => match ri_at h q with
    | some (.inl (t, N, .inl f)) => vp_in i N ∧ bif Nat.beq t kd then k n U V L (.int (f i.toNatClampNeg) :: r) h else False
    | _ => False
  | _ => False
def i_ast (n kd : Nat) (na : Int32 → Int32) : ri_S := fun k U V L st h => match st with
  | .int x :: .int i :: .ref q :: r => match ri_at h q with
    | some (.inl (t, N, .inl f)) => vp_in i N ∧ bif Nat.ble 16 q && Nat.beq t kd then k n U V L r (h.set (q - 16) (.inl (t, N, .inl (upd f i.toNatClampNeg (na x))))) else False
    | _ => False
  | _ => False
def i_aald (n kd : Nat) : ri_S := fun k U V L st h => match st with
  | .int i :: .ref q :: r => match ri_at h q with
    | some (.inl (t, N, .inr g)) => vp_in i N ∧ bif Nat.ble 16 q && Nat.beq t kd then k n U V L (va_rf (g i.toNatClampNeg) :: r) h else False
    | _ => False
  | _ => False
def i_alen (n : Nat) : ri_S := fun k U V L st h => match st with
  | .ref q :: r => match ri_at h q with
    | some (.inl (t, N, _)) => bif Nat.blt t ri_kt.length then k n U V L (.int (Int32.ofNat N) :: r) h else False
    | _ => False
  | _ => False
def i_call (n na : Nat) (E : List Value → List ri_C → ri_O → Prop) (mc ms RC RS : Nat) : ri_S := fun k U V L st h =>
  bif Nat.ble (U + mc) RC && (Nat.ble (V + ms) RS && (Nat.ble na st.length && Nat.ble ((st.drop na).map Value.category).sum 8)) then (∃ Po : ri_O, E (st.take na).reverse h Po ∧ ∀ r h', Po r h' → k n (U + mc) (V + ms) L (r.toList ++ st.drop na) h') else False
/-- a call of an instance method: the receiver is an object of class ci -/
def i_callV (n na ci : Nat) (E : List Value → List ri_C → ri_O → Prop) (mc ms RC RS : Nat) : ri_S := fun k U V L st h => match (st.take na).reverse with
  | .ref q :: as => match ri_at h q with
    | some (.inr (c', _)) => bif Nat.ble 16 q && (Nat.beq c' ci && (Nat.ble (U + mc) RC && (Nat.ble (V + ms) RS && (Nat.ble na st.length && Nat.ble ((st.drop na).map Value.category).sum 8)))) then (∃ Po : ri_O, E (.ref q :: as) h Po ∧ ∀ r h', Po r h' → k n (U + mc) (V + ms) L (r.toList ++ st.drop na) h') else False
    | _ => False
  | _ => False
def ri_sw (P : Nat → Prop) (x : Int32) : List (Int32 × Nat) → Nat → Prop
  | [], d => P d
  | (v, t) :: r, d => (x = v → P t) ∧ (¬ x = v → ri_sw P x r d)
def i_sw (cs : List (Int32 × Nat)) (d : Nat) : ri_S := fun k U V L st h => match st with
  | .int x :: r => ri_sw (fun t => k t U V L r h) x cs d
  | _ => False
def i_ret (Po : ri_O) (mc ms : Nat) : ri_S := fun _ U V _ st h => match st with
  | [.int v] => bif Nat.ble U mc && Nat.ble V ms then Po (some (.int v)) h else False
  | _ => False
def i_zret (Po : ri_O) (mc ms : Nat) : ri_S := fun _ U V _ st h => match st with
  | [.int v] => bif Nat.ble U mc && Nat.ble V ms then narrow .boolean (.int v) = .int v ∧ Po (some (.int v)) h else False
  | _ => False
def i_vret (Po : ri_O) (mc ms : Nat) : ri_S := fun _ U V _ st h => match st with
  | [] => bif Nat.ble U mc && Nat.ble V ms then Po none h else False
  | _ => False
def i_aret (Po : ri_O) (mc ms : Nat) : ri_S := fun _ U V _ st h => match st with
  | [.ref q] => bif Nat.ble U mc && Nat.ble V ms then Po (some (.ref q)) h else False
  | _ => False
theorem ri_bif {b : Bool} {P : Prop} (h : bif b then P else False) : b = true ∧ P := by
  cases b with
  | true => exact ⟨rfl, h⟩
  | false => exact h.elim
theorem ri_and {a b : Bool} (h : (a && b) = true) : a = true ∧ b = true := by
  cases a <;> cases b <;> first | exact ⟨rfl, rfl⟩ | cases h
-- closed predicates, and runs over a stretch of the list
abbrev ri_snd (J : ri_K) (i : Nat) (f : ri_S) : Prop := ∀ k : ri_K, (∀ j U V L st h, k j U V L st h → J j U V L st h) → ∀ U V L st h, f k U V L st h → J i U V L st h
def ri_clo (J : ri_K) (tab : List ri_S) : Prop := ∀ (i : Nat) (f : ri_S), tab[i]? = some f → ri_snd J i f
def ri_run (tab : List ri_S) (stops : List Nat) (J : ri_K) : Nat → ri_K
  | 0 => J
  | n + 1 => fun i U V L st h => bif stops.contains i then J i U V L st h else (match tab[i]? with
    | some f => f (ri_run tab stops J n) U V L st h
    | none => False)
theorem ri_run_ok {tab : List ri_S} {J : ri_K} (hJ : ri_clo J tab) (stops : List Nat) : ∀ (n i U V : Nat) (L : ri_L) (st : List Value) (h : List ri_C), ri_run tab stops J n i U V L st h → J i U V L st h
  | 0, _, _, _, _, _, _, hr => hr
  | n + 1, i, U, V, L, st, h, hr => by
    unfold ri_run at hr
    cases hs : stops.contains i with
    | true => rw [hs] at hr; exact hr
    | false =>
      rw [hs] at hr
      cases ht : tab[i]? with
      | none => rw [ht] at hr; exact hr.elim
      | some f =>
        rw [ht] at hr
        exact hJ i f ht _ (ri_run_ok hJ stops n) U V L st h hr
/-- one step, then a run -/
theorem ri_go {tab : List ri_S} {J : ri_K} (hJ : ri_clo J tab) (stops : List Nat) (n i : Nat) {f : ri_S} (hf : tab[i]? = some f) {U V : Nat} {L : ri_L} {st : List Value} {h : List ri_C} (hr : f (ri_run tab stops J n) U V L st h) : J i U V L st h := hJ i f hf _ (ri_run_ok hJ stops n) U V L st h hr
