/-! THE ABSTRACT MACHINE: values, memory, frames; one step as a predicate transformer.
A value: an int, a reference (family of cells, place in it), a long. Memory: the ints of all cells (family, place, slot), the places
that change of references (scans, joins, kept, spare), the one long. -/
abbrev am_V : Type := Int32 ⊕ ((Nat × Nat) ⊕ Int64)
abbrev am_M : Type := (Nat → Nat → Nat → Int32) × (Nat → Nat → Nat) × Int64
abbrev am_E : Type := Nat × Instr × Nat × Nat × Int32 × List Nat
abbrev am_P : Type := Option am_V → am_M → Prop
/-- depth left, method, index of the instruction, locals, stack, memory, what is to hold at the return -/
abbrev am_X : Type := Nat → Nat → Nat → List (Option am_V) → List am_V → am_M → am_P → Prop
def am_nth {α : Type} : List α → Nat → α → α
  | [], _, d => d
  | a :: _, 0, _ => a
  | _ :: l, n + 1, d => am_nth l n d
/-- memory with one int, one place, another -/
def am_si (M : am_M) (f i k : Nat) (x : Int32) : am_M := (fun f' i' k' => if f' = f ∧ i' = i ∧ k' = k then x else M.1 f' i' k', M.2.1, M.2.2)
def am_sv (M : am_M) (f k j : Nat) : am_M := (M.1, fun f' k' => if f' = f ∧ k' = k then j else M.2.1 f' k', M.2.2)
def am_sl (M : am_M) (x : Int64) : am_M := (M.1, M.2.1, x)
/-- a row of ints copied whole -/
def am_sr (M : am_M) (f i : Nat) (r : Nat → Int32) : am_M := (fun f' i' k' => if f' = f ∧ i' = i then r k' else M.1 f' i' k', M.2.1, M.2.2)
/-- locals: a store, also of a long; what it covers of another long goes -/
def am_set : List (Option am_V) → Nat → am_V → List (Option am_V)
  | [], _, _ => []
  | _ :: l, 0, v => some v :: l
  | some (.inr (.inr _)) :: _ :: l, 1, v => none :: some v :: l
  | a :: l, n + 1, v => a :: am_set l n v
def am_set2 : List (Option am_V) → Nat → Int64 → List (Option am_V)
  | [], _, _ => []
  | [_], 0, _ => [none]
  | _ :: _ :: l, 0, v => some (.inr (.inr v)) :: none :: l
  | some (.inr (.inr _)) :: _ :: _ :: l, 1, v => none :: some (.inr (.inr v)) :: none :: l
  | a :: l, n + 1, v => a :: am_set2 l n v
def am_ent : Nat → List am_V → List (Option am_V)
  | n, [] => List.replicate n none
  | n, .inr (.inr x) :: l => some (.inr (.inr x)) :: none :: am_ent (n - 2) l
  | n, v :: l => some v :: am_ent (n - 1) l
def am_pop : Nat → List am_V → List am_V → Option (List am_V × List am_V)
  | 0, st, acc => some (acc, st)
  | n + 1, v :: st, acc => am_pop n st (v :: acc)
  | _ + 1, [], _ => none
def am_cat : List am_V → Nat
  | [] => 0
  | .inr (.inr _) :: l => 2 + am_cat l
  | _ :: l => 1 + am_cat l
def am_i (st : List am_V) (K : Int32 → List am_V → Prop) : Prop := match st with
  | .inl x :: r => K x r
  | _ => False
def am_r (st : List am_V) (K : Nat → Nat → List am_V → Prop) : Prop := match st with
  | .inr (.inl q) :: r => K q.1 q.2 r
  | _ => False
def am_l (st : List am_V) (K : Int64 → List am_V → Prop) : Prop := match st with
  | .inr (.inr x) :: r => K x r
  | _ => False
/-- two ints, the lower one first -/
def am_ii (st : List am_V) (K : Int32 → Int32 → List am_V → Prop) : Prop := am_i st fun y r => am_i r fun x r => K x y r
def am_ll (st : List am_V) (K : Int64 → Int64 → List am_V → Prop) : Prop := am_l st fun y r => am_l r fun x r => K x y r
def am_vi (v : Option am_V) (K : Int32 → Prop) : Prop := match v with
  | some (.inl x) => K x
  | _ => False
def am_vr (v : Option am_V) (K : Nat → Nat → Prop) : Prop := match v with
  | some (.inr (.inl q)) => K q.1 q.2
  | _ => False
def am_vl (v : Option am_V) (K : Int64 → Prop) : Prop := match v with
  | some (.inr (.inr x)) => K x
  | _ => False
def am_cmp (c : Jvm.ClassFile.Cond) (x y : Int32) : Prop := match c with
  | .eq => x = y
  | .ne => ¬ x = y
  | .lt => x < y
  | .ge => y ≤ x
  | .gt => y < x
  | .le => x ≤ y
def am_sw (u : Int) : Int → List Nat → (Nat → Prop) → Prop
  | _, [], _ => True
  | lo, t :: ts, K => (u = lo → K t) ∧ am_sw u (lo + 1) ts K
