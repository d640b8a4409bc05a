section
/-! THE ABSTRACT MACHINE: values, memory, frames; one step as a predicate transformer.
A value: an int, a reference (family of cells, place in it), a long. Memory: the ints of all cells (family, place, slot), the places
that change of references (scans, joins, kept, spare), the one long. -/
abbrev am_V : Type := Int32 ⊕ ((Nat × Nat) ⊕ Int64)
abbrev am_M : Type := (Nat → Nat → Nat → Int32) × (Nat → Nat → Nat) × Int64
abbrev am_E : Type := Nat × Instr × Nat × Nat × Int32 × List Nat
abbrev am_P : Type := Option am_V → am_M → Prop
/-- depth left, method, index of the instruction, locals, stack, memory, what is to hold at the return -/
abbrev am_X : Type := Nat → Nat → Nat → List (Option am_V) → List am_V → am_M → am_P → Prop
def am_nth {α : Type} : List α → Nat → α → α
  | [], _, d => d
  | a :: _, 0, _ => a
  | _ :: l, n + 1, d => am_nth l n d
/-- memory with one int, one place, another -/
def am_si (M : am_M) (f i k : Nat) (x : Int32) : am_M := (fun f' i' k' => if f' = f ∧ i' = i ∧ k' = k then x else M.1 f' i' k', M.2.1, M.2.2)
def am_sv (M : am_M) (f k j : Nat) : am_M := (M.1, fun f' k' => if f' = f ∧ k' = k then j else M.2.1 f' k', M.2.2)
def am_sl (M : am_M) (x : Int64) : am_M := (M.1, M.2.1, x)
/-- a row of ints copied whole -/
def am_sr (M : am_M) (f i : Nat) (r : Nat → Int32) : am_M := (fun f' i' k' => if f' = f ∧ i' = i then r k' else M.1 f' i' k', M.2.1, M.2.2)
/-- locals: a store, also of a long; what it covers of another long goes -/
def am_set : List (Option am_V) → Nat → am_V → List (Option am_V)
  | [], _, _ => []
  | _ :: l, 0, v => some v :: l
  | some (.inr (.inr _)) :: _ :: l, 1, v => none :: some v :: l
  | a :: l, n + 1, v => a :: am_set l n v
def am_set2 : List (Option am_V) → Nat → Int64 → List (Option am_V)
  | [], _, _ => []
  | [_], 0, _ => [none]
  | _ :: _ :: l, 0, v => some (.inr (.inr v)) :: none :: l
  | some (.inr (.inr _)) :: _ :: _ :: l, 1, v => none :: some (.inr (.inr v)) :: none :: l
  | a :: l, n + 1, v => a :: am_set2 l n v
def am_ent : Nat → List am_V → List (Option am_V)
  | n, [] => List.replicate n none
  | n, .inr (.inr x) :: l => some (.inr (.inr x)) :: none :: am_ent (n - 2) l
  | n, v :: l => some v :: am_ent (n - 1) l
def am_pop : Nat → List am_V → List am_V → Option (List am_V × List am_V)
  | 0, st, acc => some (acc, st)
  | n + 1, v :: st, acc => am_pop n st (v :: acc)
  | _ + 1, [], _ => none
def am_cat : List am_V → Nat
  | [] => 0
  | .inr (.inr _) :: l => 2 + am_cat l
  | _ :: l => 1 + am_cat l
def am_i (st : List am_V) (K : Int32 → List am_V → Prop) : Prop := match st with
  | .inl x :: r => K x r
  | _ => False
def am_r (st : List am_V) (K : Nat → Nat → List am_V → Prop) : Prop := match st with
  | .inr (.inl q) :: r => K q.1 q.2 r
  | _ => False
def am_l (st : List am_V) (K : Int64 → List am_V → Prop) : Prop := match st with
  | .inr (.inr x) :: r => K x r
  | _ => False
/-- two ints, the lower one first -/
def am_ii (st : List am_V) (K : Int32 → Int32 → List am_V → Prop) : Prop := am_i st fun y r => am_i r fun x r => K x y r
def am_ll (st : List am_V) (K : Int64 → Int64 → List am_V → Prop) : Prop := am_l st fun y r => am_l r fun x r => K x y r
def am_vi (v : Option am_V) (K : Int32 → Prop) : Prop := match v with
  | some (.inl x) => K x
  | _ => False
def am_vr (v : Option am_V) (K : Nat → Nat → Prop) : Prop := match v with
  | some (.inr (.inl q)) => K q.1 q.2
  | _ => False
def am_vl (v : Option am_V) (K : Int64 → Prop) : Prop := match v with
  | some (.inr (.inr x)) => K x
  | _ => False
def am_cmp (c : Jvm.ClassFile.Cond) (x y : Int32) : Prop := match c with
  | .eq => x = y
  | .ne => ¬ x = y
  | .lt => x < y
  | .ge => y ≤ x
  | .gt => y < x
  | .le => x ≤ y
def am_sw (u : Int) : Int → List Nat → (Nat → Prop) → Prop
  | _, [], _ => True
  | lo, t :: ts, K => (u = lo → K t) ∧ am_sw u (lo + 1) ts K
end
section
/-! the tables of the abstract machine: families of cells, methods, their code by index; printed by wip/whole/gen.py -/
def am_fam : List (Nat × Nat × Nat × Nat) := [(0, 1, 3, 0), (0, 1, 9, 1), (1, 1, 3, 0), (1, 1, 3, 0), (3, 1, 13, 6), (1, 1, 12, 0), (1, 1, 6, 0), (1, 1, 10, 0), (0, 1, 4, 2), (3, 2, 4, 8), (0, 1, 12, 3), (0, 1, 3, 4), (3, 1, 4, 7), (1, 1, 24, 0), (1, 1, 5, 0), (1, 1, 4, 0), (2, 1, 6, 0), (0, 1, 3, 5), (0, 13, 6, 6), (1, 13, 4, 0), (1, 13, 4, 0), (1, 13, 4, 0), (0, 4, 3, 7), (1, 4, 4, 0), (0, 8, 4, 8), (3, 8, 6, 9), (1, 8, 48, 0), (0, 48, 9, 9), (0, 1, 39, 10), (1, 1, 3, 0), (1, 1, 3, 0), (1, 1, 12, 0), (1, 1, 12, 0), (1, 1, 12, 0), (1, 1, 48, 0), (1, 1, 48, 0), (1, 1, 48, 0), (1, 1, 4, 0), (1, 1, 4, 0), (1, 1, 4, 0), (1, 1, 10, 0), (1, 1, 6, 0), (1, 1, 12, 0), (1, 1, 8, 0), (1, 1, 8, 0), (1, 1, 384, 0), (1, 1, 48, 0), (1, 1, 48, 0), (1, 1, 48, 0), (1, 1, 48, 0), (1, 1, 48, 0), (1, 1, 48, 0), (1, 1, 48, 0), (1, 1, 48, 0), (2, 1, 48, 0), (1, 1, 32, 0), (1, 1, 5, 0), (1, 1, 5, 0), (1, 1, 5, 0), (1, 1, 6, 0), (1, 1, 6, 0), (1, 1, 0, 0)]
def am_ftyT : List (List Nat) := [[2, 2, 2], [1, 0, 0, 2, 2, 2, 2, 2, 2], [2, 0, 2, 2], [2, 0, 0, 0, 3, 0, 0, 0, 2, 2, 2, 2], [0, 0, 2], [0, 0, 0], [0, 0, 0, 2, 2, 2], [0, 0, 2], [0, 0, 2, 2], [0, 0, 0, 0, 0, 0, 0, 0, 1], [0, 0, 0, 2, 2, 2, 2, 2, 2, 2, 2, 2, 2, 2, 2, 2, 1, 2, 0, 0, 2, 2, 2, 2, 2, 2, 2, 2, 2, 2, 2, 2, 2, 0, 2, 2, 2, 0, 0]]
def am_rfT : List (List Nat) := [[1, 8, 17], [0, 0, 0, 2, 3, 4, 5, 6, 7], [9, 0, 9, 10], [11, 0, 0, 0, 0, 0, 0, 0, 13, 14, 15, 16], [0, 0, 12], [0, 0, 0], [0, 0, 0, 19, 20, 21], [0, 0, 23], [0, 0, 25, 26], [0, 0, 0, 0, 0, 0, 0, 0, 0], [0, 0, 0, 29, 30, 31, 32, 33, 34, 35, 36, 37, 38, 39, 40, 41, 0, 42, 0, 0, 43, 44, 45, 46, 47, 48, 49, 50, 51, 52, 53, 54, 55, 0, 56, 57, 58, 0, 0]]
/-- of each method: class number, most locals, kind of answer (0 int 1 boolean 2 none 3 long 4 reference), instance -/
def am_mth : List (Nat × Nat × Nat × Nat) := [(0, 1, 0, 1), (0, 4, 0, 1), (0, 5, 0, 1), (0, 3, 0, 1), (0, 2, 0, 1), (0, 4, 0, 1), (0, 4, 0, 1), (0, 1, 0, 1), (0, 2, 0, 1), (0, 2, 0, 1), (0, 2, 0, 1), (0, 4, 0, 1), (0, 4, 0, 1), (0, 7, 0, 1), (0, 2, 0, 1), (0, 3, 0, 1), (0, 3, 0, 1), (0, 2, 0, 1), (0, 7, 0, 1), (0, 4, 0, 1), (0, 7, 0, 1), (0, 3, 0, 1), (0, 4, 0, 1), (0, 6, 0, 1), (0, 2, 0, 1), (0, 3, 1, 0), (0, 1, 0, 0), (0, 4, 0, 1), (0, 7, 0, 1), (0, 8, 0, 1), (0, 4, 0, 1), (0, 4, 0, 1), (1, 2, 1, 1), (1, 2, 1, 1), (1, 3, 1, 1), (1, 1, 4, 1), (1, 3, 2, 1), (1, 4, 2, 1), (1, 3, 2, 1), (1, 3, 0, 1), (1, 3, 0, 1), (1, 3, 0, 1), (2, 3, 2, 1), (2, 6, 2, 1), (2, 2, 1, 1), (2, 3, 1, 1), (2, 4, 1, 1), (2, 4, 1, 1), (3, 2, 2, 1), (3, 5, 2, 1), (3, 12, 2, 1), (3, 7, 0, 1), (3, 5, 2, 1), (3, 5, 1, 1), (3, 7, 2, 0), (4, 2, 2, 1), (4, 2, 1, 1), (4, 6, 2, 1), (5, 8, 2, 1), (5, 5, 2, 1), (5, 1, 0, 1), (5, 1, 0, 1), (6, 4, 2, 1), (7, 4, 0, 1), (8, 1, 2, 1), (8, 3, 2, 1), (8, 3, 0, 1), (8, 5, 0, 1), (8, 3, 0, 1), (8, 3, 0, 1), (8, 3, 1, 1), (8, 9, 2, 1), (9, 2, 2, 1), (9, 5, 2, 1), (9, 6, 2, 1), (9, 2, 2, 1), (9, 1, 1, 1), (9, 2, 1, 1), (9, 3, 0, 1), (9, 3, 0, 1), (9, 3, 0, 1), (9, 2, 0, 1), (10, 4, 1, 1), (10, 2, 1, 1), (10, 2, 1, 1), (10, 3, 1, 1), (10, 1, 0, 1), (10, 4, 0, 1), (10, 4, 0, 1), (10, 4, 0, 1), (10, 4, 0, 1), (10, 4, 0, 1), (10, 4, 0, 1), (10, 3, 2, 1), (10, 3, 0, 1), (10, 3, 0, 1), (10, 11, 3, 1), (10, 13, 2, 1), (10, 4, 0, 1), (10, 10, 0, 1), (10, 5, 2, 1), (10, 6, 2, 1), (10, 4, 0, 1), (10, 4, 2, 1), (10, 5, 2, 1), (10, 10, 2, 1), (10, 7, 2, 1), (10, 2, 2, 1), (10, 2, 1, 1), (10, 3, 1, 1), (10, 1, 0, 1), (10, 2, 0, 1), (10, 2, 0, 1), (10, 2, 0, 1), (10, 5, 0, 1), (10, 4, 0, 1), (10, 4, 0, 1), (10, 5, 0, 1), (10, 2, 0, 1), (10, 5, 0, 1), (10, 5, 1, 1), (10, 3, 0, 1), (10, 4, 0, 1), (10, 6, 0, 1), (10, 6, 0, 1), (10, 8, 0, 1), (10, 4, 0, 1), (10, 6, 0, 1), (10, 8, 0, 1), (10, 3, 0, 1), (10, 5, 0, 1), (10, 2, 0, 1), (10, 7, 0, 1), (10, 5, 0, 1), (11, 3, 0, 0), (11, 2, 0, 0), (11, 2, 0, 0), (12, 4, 1, 0)]
-- 0 WhoIsWho.watcher()I
def am_c0 : List am_E := [(0, .aload_n 0, 0, 0, 0, []), (1, .getfield 12, 0, 0, 0, []), (4, .getfield 32, 1, 1, 0, []), (7, .iconst 3, 0, 0, 3, []), (8, .if_icmp .lt 6, 7, 0, 0, []), (11, .bipush (-4), 0, 0, (-4), []), (13, .ireturn, 0, 0, 0, []), (14, .aload_n 0, 0, 0, 0, []), (15, .getfield 12, 0, 0, 0, []), (18, .dup, 0, 0, 0, []), (19, .getfield 32, 1, 1, 0, []), (22, .iconst 1, 0, 0, 1, []), (23, .iadd, 0, 0, 0, []), (24, .putfield 32, 1, 1, 0, []), (27, .aload_n 0, 0, 0, 0, []), (28, .getfield 12, 0, 0, 0, []), (31, .getfield 32, 1, 1, 0, []), (34, .iconst 1, 0, 0, 1, []), (35, .isub, 0, 0, 0, []), (36, .ireturn, 0, 0, 0, [])]
-- 1 WhoIsWho.shift(III)I
def am_c1 : List am_E := [(0, .aload_n 0, 0, 0, 0, []), (1, .getfield 12, 0, 0, 0, []), (4, .iload_n 1, 0, 0, 0, []), (5, .invokevirtual 36, 32, 1, 0, []), (8, .ifCond .ne 5, 7, 0, 0, []), (11, .iconst (-1), 0, 0, (-1), []), (12, .ireturn, 0, 0, 0, []), (13, .iload_n 2, 0, 0, 0, []), (14, .bipush (-50), 0, 0, (-50), []), (16, .bipush 50, 0, 0, 50, []), (18, .invokestatic 40, 25, 3, 0, []), (21, .ifCond .eq 14, 17, 0, 0, []), (24, .iload_n 3, 0, 0, 0, []), (25, .bipush (-50), 0, 0, (-50), []), (27, .bipush 50, 0, 0, 50, []), (29, .invokestatic 40, 25, 3, 0, []), (32, .ifCond .ne 6, 19, 0, 0, []), (35, .bipush (-2), 0, 0, (-2), []), (37, .ireturn, 0, 0, 0, []), (38, .aload_n 0, 0, 0, 0, []), (39, .getfield 12, 0, 0, 0, []), (42, .getfield 44, 1, 3, 0, []), (45, .iload_n 1, 0, 0, 0, []), (46, .iload_n 2, 0, 0, 0, []), (47, .iastore, 0, 0, 0, []), (48, .aload_n 0, 0, 0, 0, []), (49, .getfield 12, 0, 0, 0, []), (52, .getfield 48, 1, 4, 0, []), (55, .iload_n 1, 0, 0, 0, []), (56, .iload_n 3, 0, 0, 0, []), (57, .iastore, 0, 0, 0, []), (58, .aload_n 0, 0, 0, 0, []), (59, .getfield 12, 0, 0, 0, []), (62, .iconst 1, 0, 0, 1, []), (63, .putfield 51, 1, 0, 0, []), (66, .iconst 0, 0, 0, 0, []), (67, .ireturn, 0, 0, 0, [])]
-- 2 WhoIsWho.dot(III)I
def am_c2 : List am_E := [(0, .iload_n 1, 0, 0, 0, []), (1, .sipush (-1000), 0, 0, (-1000), []), (4, .sipush 1000, 0, 0, 1000, []), (7, .invokestatic 40, 25, 3, 0, []), (10, .ifCond .eq 26, 15, 0, 0, []), (13, .iload_n 2, 0, 0, 0, []), (14, .sipush (-1000), 0, 0, (-1000), []), (17, .sipush 1000, 0, 0, 1000, []), (20, .invokestatic 40, 25, 3, 0, []), (23, .ifCond .eq 13, 15, 0, 0, []), (26, .iload_n 3, 0, 0, 0, []), (27, .iconst 0, 0, 0, 0, []), (28, .bipush 9, 0, 0, 9, []), (30, .invokestatic 40, 25, 3, 0, []), (33, .ifCond .ne 6, 17, 0, 0, []), (36, .bipush (-2), 0, 0, (-2), []), (38, .ireturn, 0, 0, 0, []), (39, .aload_n 0, 0, 0, 0, []), (40, .getfield 12, 0, 0, 0, []), (43, .invokevirtual 55, 35, 0, 0, []), (46, .astore 4, 0, 0, 0, []), (48, .aload 4, 0, 0, 0, []), (50, .getfield 59, 6, 2, 0, []), (53, .iconst 4, 0, 0, 4, []), (54, .if_icmp .lt 6, 27, 0, 0, []), (57, .bipush (-4), 0, 0, (-4), []), (59, .ireturn, 0, 0, 0, []), (60, .aload 4, 0, 0, 0, []), (62, .iload_n 1, 0, 0, 0, []), (63, .iload_n 2, 0, 0, 0, []), (64, .iload_n 3, 0, 0, 0, []), (65, .invokevirtual 64, 62, 3, 0, []), (68, .aload 4, 0, 0, 0, []), (70, .getfield 59, 6, 2, 0, []), (73, .ireturn, 0, 0, 0, [])]
-- 3 WhoIsWho.scan(II)I
def am_c3 : List am_E := [(0, .aload_n 0, 0, 0, 0, []), (1, .getfield 12, 0, 0, 0, []), (4, .iload_n 1, 0, 0, 0, []), (5, .invokevirtual 36, 32, 1, 0, []), (8, .ifCond .ne 5, 7, 0, 0, []), (11, .iconst (-1), 0, 0, (-1), []), (12, .ireturn, 0, 0, 0, []), (13, .iload_n 2, 0, 0, 0, []), (14, .iconst 0, 0, 0, 0, []), (15, .sipush 999, 0, 0, 999, []), (18, .invokestatic 40, 25, 3, 0, []), (21, .ifCond .ne 6, 14, 0, 0, []), (24, .bipush (-2), 0, 0, (-2), []), (26, .ireturn, 0, 0, 0, []), (27, .aload_n 0, 0, 0, 0, []), (28, .getfield 12, 0, 0, 0, []), (31, .getfield 68, 1, 2, 0, []), (34, .bipush 12, 0, 0, 12, []), (36, .if_icmp .lt 6, 21, 0, 0, []), (39, .bipush (-4), 0, 0, (-4), []), (41, .ireturn, 0, 0, 0, []), (42, .aload_n 0, 0, 0, 0, []), (43, .getfield 12, 0, 0, 0, []), (46, .iload_n 1, 0, 0, 0, []), (47, .iload_n 2, 0, 0, 0, []), (48, .invokevirtual 71, 36, 2, 0, []), (51, .aload_n 0, 0, 0, 0, []), (52, .getfield 12, 0, 0, 0, []), (55, .iconst 1, 0, 0, 1, []), (56, .putfield 51, 1, 0, 0, []), (59, .aload_n 0, 0, 0, 0, []), (60, .getfield 12, 0, 0, 0, []), (63, .getfield 68, 1, 2, 0, []), (66, .iconst 1, 0, 0, 1, []), (67, .isub, 0, 0, 0, []), (68, .ireturn, 0, 0, 0, [])]
-- 4 WhoIsWho.drop(I)I
def am_c4 : List am_E := [(0, .aload_n 0, 0, 0, 0, []), (1, .getfield 12, 0, 0, 0, []), (4, .iload_n 1, 0, 0, 0, []), (5, .invokevirtual 75, 33, 1, 0, []), (8, .ifCond .ne 5, 7, 0, 0, []), (11, .iconst (-1), 0, 0, (-1), []), (12, .ireturn, 0, 0, 0, []), (13, .aload_n 0, 0, 0, 0, []), (14, .getfield 12, 0, 0, 0, []), (17, .iload_n 1, 0, 0, 0, []), (18, .invokevirtual 78, 37, 1, 0, []), (21, .aload_n 0, 0, 0, 0, []), (22, .getfield 12, 0, 0, 0, []), (25, .iconst 1, 0, 0, 1, []), (26, .putfield 51, 1, 0, 0, []), (29, .aload_n 0, 0, 0, 0, []), (30, .getfield 12, 0, 0, 0, []), (33, .getfield 68, 1, 2, 0, []), (36, .ireturn, 0, 0, 0, [])]
-- 5 WhoIsWho.kind(II)I
def am_c5 : List am_E := [(0, .iload_n 1, 0, 0, 0, []), (1, .iconst 1, 0, 0, 1, []), (2, .bipush 9, 0, 0, 9, []), (4, .invokestatic 40, 25, 3, 0, []), (7, .ifCond .ne 5, 7, 0, 0, []), (10, .iconst (-1), 0, 0, (-1), []), (11, .ireturn, 0, 0, 0, []), (12, .iload_n 2, 0, 0, 0, []), (13, .iconst 0, 0, 0, 0, []), (14, .iconst 2, 0, 0, 2, []), (15, .invokestatic 40, 25, 3, 0, []), (18, .ifCond .ne 6, 14, 0, 0, []), (21, .bipush (-2), 0, 0, (-2), []), (23, .ireturn, 0, 0, 0, []), (24, .aload_n 0, 0, 0, 0, []), (25, .getfield 12, 0, 0, 0, []), (28, .getfield 82, 1, 8, 0, []), (31, .iload_n 1, 0, 0, 0, []), (32, .iaload, 0, 0, 0, []), (33, .istore_n 3, 0, 0, 0, []), (34, .aload_n 0, 0, 0, 0, []), (35, .getfield 12, 0, 0, 0, []), (38, .getfield 82, 1, 8, 0, []), (41, .iload_n 1, 0, 0, 0, []), (42, .iload_n 2, 0, 0, 0, []), (43, .iastore, 0, 0, 0, []), (44, .aload_n 0, 0, 0, 0, []), (45, .getfield 12, 0, 0, 0, []), (48, .iconst 1, 0, 0, 1, []), (49, .putfield 51, 1, 0, 0, []), (52, .iload_n 3, 0, 0, 0, []), (53, .ireturn, 0, 0, 0, [])]
-- 6 WhoIsWho.rule(II)I
def am_c6 : List am_E := [(0, .iload_n 1, 0, 0, 0, []), (1, .iconst 0, 0, 0, 0, []), (2, .iconst 5, 0, 0, 5, []), (3, .invokestatic 40, 25, 3, 0, []), (6, .ifCond .ne 5, 7, 0, 0, []), (9, .iconst (-1), 0, 0, (-1), []), (10, .ireturn, 0, 0, 0, []), (11, .iload_n 2, 0, 0, 0, []), (12, .getstatic 85, 59, 0, 0, []), (15, .iload_n 1, 0, 0, 0, []), (16, .iaload, 0, 0, 0, []), (17, .getstatic 88, 60, 0, 0, []), (20, .iload_n 1, 0, 0, 0, []), (21, .iaload, 0, 0, 0, []), (22, .invokestatic 40, 25, 3, 0, []), (25, .ifCond .ne 6, 18, 0, 0, []), (28, .bipush (-2), 0, 0, (-2), []), (30, .ireturn, 0, 0, 0, []), (31, .aload_n 0, 0, 0, 0, []), (32, .getfield 12, 0, 0, 0, []), (35, .getfield 91, 1, 7, 0, []), (38, .iload_n 1, 0, 0, 0, []), (39, .iaload, 0, 0, 0, []), (40, .istore_n 3, 0, 0, 0, []), (41, .aload_n 0, 0, 0, 0, []), (42, .getfield 12, 0, 0, 0, []), (45, .getfield 91, 1, 7, 0, []), (48, .iload_n 1, 0, 0, 0, []), (49, .iload_n 2, 0, 0, 0, []), (50, .iastore, 0, 0, 0, []), (51, .aload_n 0, 0, 0, 0, []), (52, .getfield 12, 0, 0, 0, []), (55, .iconst 1, 0, 0, 1, []), (56, .putfield 51, 1, 0, 0, []), (59, .iload_n 3, 0, 0, 0, []), (60, .ireturn, 0, 0, 0, [])]
-- 7 WhoIsWho.worlds()I
def am_c7 : List am_E := [(0, .aload_n 0, 0, 0, 0, []), (1, .getfield 21, 0, 1, 0, []), (4, .aload_n 0, 0, 0, 0, []), (5, .getfield 12, 0, 0, 0, []), (8, .invokevirtual 94, 42, 1, 0, []), (11, .aload_n 0, 0, 0, 0, []), (12, .getfield 21, 0, 1, 0, []), (15, .getfield 98, 2, 1, 0, []), (18, .ireturn, 0, 0, 0, [])]
-- 8 WhoIsWho.cost(I)I
def am_c8 : List am_E := [(0, .aload_n 0, 0, 0, 0, []), (1, .getfield 21, 0, 1, 0, []), (4, .aload_n 0, 0, 0, 0, []), (5, .getfield 12, 0, 0, 0, []), (8, .invokevirtual 94, 42, 1, 0, []), (11, .aload_n 0, 0, 0, 0, []), (12, .getfield 21, 0, 1, 0, []), (15, .iload_n 1, 0, 0, 0, []), (16, .invokevirtual 101, 44, 1, 0, []), (19, .ifCond .eq 18, 17, 0, 0, []), (22, .aload_n 0, 0, 0, 0, []), (23, .getfield 21, 0, 1, 0, []), (26, .getfield 104, 2, 0, 0, []), (29, .iload_n 1, 0, 0, 0, []), (30, .aaload, 0, 0, 0, []), (31, .getfield 108, 8, 0, 0, []), (34, .goto 5, 18, 0, 0, []), (37, .ldc 113, 0, 0, (-2147483648), []), (39, .ireturn, 0, 0, 0, [])]
-- 9 WhoIsWho.gap(I)I
def am_c9 : List am_E := [(0, .aload_n 0, 0, 0, 0, []), (1, .getfield 21, 0, 1, 0, []), (4, .aload_n 0, 0, 0, 0, []), (5, .getfield 12, 0, 0, 0, []), (8, .invokevirtual 94, 42, 1, 0, []), (11, .aload_n 0, 0, 0, 0, []), (12, .getfield 21, 0, 1, 0, []), (15, .iload_n 1, 0, 0, 0, []), (16, .invokevirtual 101, 44, 1, 0, []), (19, .ifCond .eq 31, 24, 0, 0, []), (22, .aload_n 0, 0, 0, 0, []), (23, .getfield 21, 0, 1, 0, []), (26, .getfield 104, 2, 0, 0, []), (29, .iload_n 1, 0, 0, 0, []), (30, .aaload, 0, 0, 0, []), (31, .getfield 108, 8, 0, 0, []), (34, .aload_n 0, 0, 0, 0, []), (35, .getfield 21, 0, 1, 0, []), (38, .getfield 104, 2, 0, 0, []), (41, .iconst 0, 0, 0, 0, []), (42, .aaload, 0, 0, 0, []), (43, .getfield 108, 8, 0, 0, []), (46, .isub, 0, 0, 0, []), (47, .goto 4, 25, 0, 0, []), (50, .iconst (-1), 0, 0, (-1), []), (51, .ireturn, 0, 0, 0, [])]
-- 10 WhoIsWho.tracks(I)I
def am_c10 : List am_E := [(0, .aload_n 0, 0, 0, 0, []), (1, .getfield 21, 0, 1, 0, []), (4, .aload_n 0, 0, 0, 0, []), (5, .getfield 12, 0, 0, 0, []), (8, .invokevirtual 94, 42, 1, 0, []), (11, .aload_n 0, 0, 0, 0, []), (12, .getfield 21, 0, 1, 0, []), (15, .iload_n 1, 0, 0, 0, []), (16, .invokevirtual 101, 44, 1, 0, []), (19, .ifCond .eq 18, 17, 0, 0, []), (22, .aload_n 0, 0, 0, 0, []), (23, .getfield 21, 0, 1, 0, []), (26, .getfield 104, 2, 0, 0, []), (29, .iload_n 1, 0, 0, 0, []), (30, .aaload, 0, 0, 0, []), (31, .getfield 114, 8, 1, 0, []), (34, .goto 4, 18, 0, 0, []), (37, .iconst (-1), 0, 0, (-1), []), (38, .ireturn, 0, 0, 0, [])]
-- 11 WhoIsWho.track(III)I
def am_c11 : List am_E := [(0, .aload_n 0, 0, 0, 0, []), (1, .getfield 21, 0, 1, 0, []), (4, .aload_n 0, 0, 0, 0, []), (5, .getfield 12, 0, 0, 0, []), (8, .invokevirtual 94, 42, 1, 0, []), (11, .aload_n 0, 0, 0, 0, []), (12, .getfield 21, 0, 1, 0, []), (15, .iload_n 1, 0, 0, 0, []), (16, .iload_n 2, 0, 0, 0, []), (17, .invokevirtual 117, 45, 2, 0, []), (20, .ifCond .ne 6, 13, 0, 0, []), (23, .ldc 113, 0, 0, (-2147483648), []), (25, .ireturn, 0, 0, 0, []), (26, .aload_n 0, 0, 0, 0, []), (27, .getfield 21, 0, 1, 0, []), (30, .getfield 104, 2, 0, 0, []), (33, .iload_n 1, 0, 0, 0, []), (34, .aaload, 0, 0, 0, []), (35, .getfield 121, 8, 2, 0, []), (38, .iload_n 2, 0, 0, 0, []), (39, .aaload, 0, 0, 0, []), (40, .iload_n 3, 0, 0, 0, []), (41, .invokevirtual 125, 81, 1, 0, []), (44, .ireturn, 0, 0, 0, [])]
-- 12 WhoIsWho.account(III)I
def am_c12 : List am_E := [(0, .aload_n 0, 0, 0, 0, []), (1, .getfield 21, 0, 1, 0, []), (4, .aload_n 0, 0, 0, 0, []), (5, .getfield 12, 0, 0, 0, []), (8, .invokevirtual 94, 42, 1, 0, []), (11, .aload_n 0, 0, 0, 0, []), (12, .getfield 21, 0, 1, 0, []), (15, .iload_n 1, 0, 0, 0, []), (16, .invokevirtual 101, 44, 1, 0, []), (19, .ifCond .eq 15, 16, 0, 0, []), (22, .aload_n 0, 0, 0, 0, []), (23, .getfield 12, 0, 0, 0, []), (26, .iload_n 2, 0, 0, 0, []), (27, .iload_n 3, 0, 0, 0, []), (28, .invokevirtual 131, 34, 2, 0, []), (31, .ifCond .ne 6, 18, 0, 0, []), (34, .bipush (-2), 0, 0, (-2), []), (36, .ireturn, 0, 0, 0, []), (37, .aload_n 0, 0, 0, 0, []), (38, .getfield 21, 0, 1, 0, []), (41, .getfield 104, 2, 0, 0, []), (44, .iload_n 1, 0, 0, 0, []), (45, .aaload, 0, 0, 0, []), (46, .iload_n 2, 0, 0, 0, []), (47, .iload_n 3, 0, 0, 0, []), (48, .invokevirtual 134, 66, 2, 0, []), (51, .ireturn, 0, 0, 0, [])]
-- 13 WhoIsWho.foretell(IIII)I
def am_c13 : List am_E := [(0, .aload_n 0, 0, 0, 0, []), (1, .getfield 21, 0, 1, 0, []), (4, .aload_n 0, 0, 0, 0, []), (5, .getfield 12, 0, 0, 0, []), (8, .invokevirtual 94, 42, 1, 0, []), (11, .aload_n 0, 0, 0, 0, []), (12, .getfield 21, 0, 1, 0, []), (15, .iload_n 1, 0, 0, 0, []), (16, .iload_n 2, 0, 0, 0, []), (17, .invokevirtual 117, 45, 2, 0, []), (20, .ifCond .eq 13, 16, 0, 0, []), (23, .iload 4, 0, 0, 0, []), (25, .iconst 0, 0, 0, 0, []), (26, .iconst 1, 0, 0, 1, []), (27, .invokestatic 40, 25, 3, 0, []), (30, .ifCond .ne 6, 18, 0, 0, []), (33, .ldc 113, 0, 0, (-2147483648), []), (35, .ireturn, 0, 0, 0, []), (36, .aload_n 0, 0, 0, 0, []), (37, .getfield 21, 0, 1, 0, []), (40, .getfield 104, 2, 0, 0, []), (43, .iload_n 1, 0, 0, 0, []), (44, .aaload, 0, 0, 0, []), (45, .getfield 121, 8, 2, 0, []), (48, .iload_n 2, 0, 0, 0, []), (49, .aaload, 0, 0, 0, []), (50, .astore 5, 0, 0, 0, []), (52, .iload_n 3, 0, 0, 0, []), (53, .aload 5, 0, 0, 0, []), (55, .getfield 138, 9, 4, 0, []), (58, .sipush 999, 0, 0, 999, []), (61, .invokestatic 40, 25, 3, 0, []), (64, .ifCond .ne 6, 35, 0, 0, []), (67, .ldc 113, 0, 0, (-2147483648), []), (69, .ireturn, 0, 0, 0, []), (70, .aload_n 0, 0, 0, 0, []), (71, .getfield 12, 0, 0, 0, []), (74, .getfield 82, 1, 8, 0, []), (77, .aload 5, 0, 0, 0, []), (79, .getfield 141, 9, 7, 0, []), (82, .iaload, 0, 0, 0, []), (83, .istore 6, 0, 0, 0, []), (85, .iload 4, 0, 0, 0, []), (87, .ifCond .ne 14, 49, 0, 0, []), (90, .aload 5, 0, 0, 0, []), (92, .iload 6, 0, 0, 0, []), (94, .iload_n 3, 0, 0, 0, []), (95, .invokevirtual 144, 78, 2, 0, []), (98, .goto 11, 53, 0, 0, []), (101, .aload 5, 0, 0, 0, []), (103, .iload 6, 0, 0, 0, []), (105, .iload_n 3, 0, 0, 0, []), (106, .invokevirtual 147, 79, 2, 0, []), (109, .ireturn, 0, 0, 0, [])]
-- 14 WhoIsWho.ordered(I)I
def am_c14 : List am_E := [(0, .aload_n 0, 0, 0, 0, []), (1, .getfield 12, 0, 0, 0, []), (4, .iload_n 1, 0, 0, 0, []), (5, .invokevirtual 75, 33, 1, 0, []), (8, .ifCond .ne 5, 7, 0, 0, []), (11, .iconst (-1), 0, 0, (-1), []), (12, .ireturn, 0, 0, 0, []), (13, .aload_n 0, 0, 0, 0, []), (14, .getfield 21, 0, 1, 0, []), (17, .aload_n 0, 0, 0, 0, []), (18, .getfield 12, 0, 0, 0, []), (21, .invokevirtual 94, 42, 1, 0, []), (24, .aload_n 0, 0, 0, 0, []), (25, .getfield 12, 0, 0, 0, []), (28, .getfield 150, 1, 6, 0, []), (31, .iload_n 1, 0, 0, 0, []), (32, .iaload, 0, 0, 0, []), (33, .ireturn, 0, 0, 0, [])]
-- 15 WhoIsWho.name(I)I
def am_c15 : List am_E := [(0, .iload_n 1, 0, 0, 0, []), (1, .iconst 1, 0, 0, 1, []), (2, .bipush 9, 0, 0, 9, []), (4, .invokestatic 40, 25, 3, 0, []), (7, .ifCond .ne 5, 7, 0, 0, []), (10, .iconst (-1), 0, 0, (-1), []), (11, .ireturn, 0, 0, 0, []), (12, .aload_n 0, 0, 0, 0, []), (13, .getfield 21, 0, 1, 0, []), (16, .aload_n 0, 0, 0, 0, []), (17, .getfield 12, 0, 0, 0, []), (20, .invokevirtual 94, 42, 1, 0, []), (23, .iconst 0, 0, 0, 0, []), (24, .istore_n 2, 0, 0, 0, []), (25, .iload_n 2, 0, 0, 0, []), (26, .aload_n 0, 0, 0, 0, []), (27, .getfield 21, 0, 1, 0, []), (30, .getfield 104, 2, 0, 0, []), (33, .iconst 0, 0, 0, 0, []), (34, .aaload, 0, 0, 0, []), (35, .getfield 114, 8, 1, 0, []), (38, .if_icmp .ge 23, 32, 0, 0, []), (41, .aload_n 0, 0, 0, 0, []), (42, .getfield 21, 0, 1, 0, []), (45, .iload_n 2, 0, 0, 0, []), (46, .iload_n 1, 0, 0, 0, []), (47, .invokevirtual 153, 46, 2, 0, []), (50, .ifCond .eq 5, 30, 0, 0, []), (53, .iload_n 2, 0, 0, 0, []), (54, .ireturn, 0, 0, 0, []), (55, .iinc 2 1, 0, 0, 1, []), (58, .goto (-33), 14, 0, 0, []), (61, .iconst (-1), 0, 0, (-1), []), (62, .ireturn, 0, 0, 0, [])]
-- 16 WhoIsWho.sure(II)I
def am_c16 : List am_E := [(0, .aload_n 0, 0, 0, 0, []), (1, .getfield 12, 0, 0, 0, []), (4, .iload_n 1, 0, 0, 0, []), (5, .iload_n 2, 0, 0, 0, []), (6, .invokevirtual 131, 34, 2, 0, []), (9, .ifCond .ne 5, 8, 0, 0, []), (12, .iconst (-1), 0, 0, (-1), []), (13, .ireturn, 0, 0, 0, []), (14, .aload_n 0, 0, 0, 0, []), (15, .getfield 21, 0, 1, 0, []), (18, .aload_n 0, 0, 0, 0, []), (19, .getfield 12, 0, 0, 0, []), (22, .invokevirtual 94, 42, 1, 0, []), (25, .aload_n 0, 0, 0, 0, []), (26, .getfield 21, 0, 1, 0, []), (29, .iload_n 1, 0, 0, 0, []), (30, .iload_n 2, 0, 0, 0, []), (31, .invokevirtual 156, 47, 2, 0, []), (34, .ifCond .eq 7, 21, 0, 0, []), (37, .iconst 1, 0, 0, 1, []), (38, .goto 4, 22, 0, 0, []), (41, .iconst 0, 0, 0, 0, []), (42, .ireturn, 0, 0, 0, [])]
-- 17 WhoIsWho.alive(I)I
def am_c17 : List am_E := [(0, .aload_n 0, 0, 0, 0, []), (1, .getfield 21, 0, 1, 0, []), (4, .aload_n 0, 0, 0, 0, []), (5, .getfield 12, 0, 0, 0, []), (8, .invokevirtual 94, 42, 1, 0, []), (11, .aload_n 0, 0, 0, 0, []), (12, .getfield 21, 0, 1, 0, []), (15, .iload_n 1, 0, 0, 0, []), (16, .invokevirtual 101, 44, 1, 0, []), (19, .ifCond .eq 18, 17, 0, 0, []), (22, .aload_n 0, 0, 0, 0, []), (23, .getfield 21, 0, 1, 0, []), (26, .getfield 104, 2, 0, 0, []), (29, .iload_n 1, 0, 0, 0, []), (30, .aaload, 0, 0, 0, []), (31, .invokevirtual 159, 69, 0, 0, []), (34, .goto 4, 18, 0, 0, []), (37, .iconst (-1), 0, 0, (-1), []), (38, .ireturn, 0, 0, 0, [])]
-- 18 WhoIsWho.path(II)I
def am_c18 : List am_E := [(0, .aload_n 0, 0, 0, 0, []), (1, .getfield 21, 0, 1, 0, []), (4, .aload_n 0, 0, 0, 0, []), (5, .getfield 12, 0, 0, 0, []), (8, .invokevirtual 94, 42, 1, 0, []), (11, .aload_n 0, 0, 0, 0, []), (12, .getfield 21, 0, 1, 0, []), (15, .iconst 0, 0, 0, 0, []), (16, .iload_n 1, 0, 0, 0, []), (17, .invokevirtual 117, 45, 2, 0, []), (20, .ifCond .eq 7, 13, 0, 0, []), (23, .iload_n 2, 0, 0, 0, []), (24, .ifCond .ge 5, 15, 0, 0, []), (27, .iconst (-1), 0, 0, (-1), []), (28, .ireturn, 0, 0, 0, []), (29, .iload_n 2, 0, 0, 0, []), (30, .istore_n 3, 0, 0, 0, []), (31, .iconst 0, 0, 0, 0, []), (32, .istore 4, 0, 0, 0, []), (34, .iload 4, 0, 0, 0, []), (36, .aload_n 0, 0, 0, 0, []), (37, .getfield 12, 0, 0, 0, []), (40, .getfield 68, 1, 2, 0, []), (43, .if_icmp .ge 50, 48, 0, 0, []), (46, .aload_n 0, 0, 0, 0, []), (47, .getfield 12, 0, 0, 0, []), (50, .getfield 150, 1, 6, 0, []), (53, .iload 4, 0, 0, 0, []), (55, .iaload, 0, 0, 0, []), (56, .istore 5, 0, 0, 0, []), (58, .aload_n 0, 0, 0, 0, []), (59, .iload 5, 0, 0, 0, []), (61, .iload_n 1, 0, 0, 0, []), (62, .invokevirtual 163, 27, 2, 0, []), (65, .istore 6, 0, 0, 0, []), (67, .iload 6, 0, 0, 0, []), (69, .ifCond .lt 18, 46, 0, 0, []), (72, .iload_n 3, 0, 0, 0, []), (73, .ifCond .ne 11, 45, 0, 0, []), (76, .iconst 4, 0, 0, 4, []), (77, .iload 5, 0, 0, 0, []), (79, .imul, 0, 0, 0, []), (80, .iload 6, 0, 0, 0, []), (82, .iadd, 0, 0, 0, []), (83, .ireturn, 0, 0, 0, []), (84, .iinc 3 (-1), 0, 0, (-1), []), (87, .iinc 4 1, 0, 0, 1, []), (90, .goto (-56), 19, 0, 0, []), (93, .iconst (-1), 0, 0, (-1), []), (94, .ireturn, 0, 0, 0, [])]
-- 19 WhoIsWho.apart(III)I
def am_c19 : List am_E := [(0, .aload_n 0, 0, 0, 0, []), (1, .getfield 21, 0, 1, 0, []), (4, .aload_n 0, 0, 0, 0, []), (5, .getfield 12, 0, 0, 0, []), (8, .invokevirtual 94, 42, 1, 0, []), (11, .aload_n 0, 0, 0, 0, []), (12, .getfield 21, 0, 1, 0, []), (15, .iconst 0, 0, 0, 0, []), (16, .iload_n 1, 0, 0, 0, []), (17, .invokevirtual 117, 45, 2, 0, []), (20, .ifCond .eq 15, 17, 0, 0, []), (23, .aload_n 0, 0, 0, 0, []), (24, .getfield 21, 0, 1, 0, []), (27, .iconst 0, 0, 0, 0, []), (28, .iload_n 2, 0, 0, 0, []), (29, .invokevirtual 117, 45, 2, 0, []), (32, .ifCond .ne 5, 19, 0, 0, []), (35, .iconst (-1), 0, 0, (-1), []), (36, .ireturn, 0, 0, 0, []), (37, .aload_n 0, 0, 0, 0, []), (38, .iload_n 1, 0, 0, 0, []), (39, .iload_n 2, 0, 0, 0, []), (40, .iload_n 3, 0, 0, 0, []), (41, .invokevirtual 166, 29, 3, 0, []), (44, .ireturn, 0, 0, 0, [])]
-- 20 WhoIsWho.near(III)I
def am_c20 : List am_E := [(0, .aload_n 0, 0, 0, 0, []), (1, .getfield 21, 0, 1, 0, []), (4, .aload_n 0, 0, 0, 0, []), (5, .getfield 12, 0, 0, 0, []), (8, .invokevirtual 94, 42, 1, 0, []), (11, .aload_n 0, 0, 0, 0, []), (12, .getfield 21, 0, 1, 0, []), (15, .iconst 0, 0, 0, 0, []), (16, .iload_n 1, 0, 0, 0, []), (17, .invokevirtual 117, 45, 2, 0, []), (20, .ifCond .eq 15, 17, 0, 0, []), (23, .aload_n 0, 0, 0, 0, []), (24, .getfield 21, 0, 1, 0, []), (27, .iconst 0, 0, 0, 0, []), (28, .iload_n 2, 0, 0, 0, []), (29, .invokevirtual 117, 45, 2, 0, []), (32, .ifCond .ne 5, 19, 0, 0, []), (35, .iconst (-1), 0, 0, (-1), []), (36, .ireturn, 0, 0, 0, []), (37, .iload_n 3, 0, 0, 0, []), (38, .iconst 0, 0, 0, 0, []), (39, .sipush 1000, 0, 0, 1000, []), (42, .invokestatic 40, 25, 3, 0, []), (45, .ifCond .eq 8, 27, 0, 0, []), (48, .iload_n 1, 0, 0, 0, []), (49, .iload_n 2, 0, 0, 0, []), (50, .if_icmp .ne 6, 29, 0, 0, []), (53, .bipush (-2), 0, 0, (-2), []), (55, .ireturn, 0, 0, 0, []), (56, .iconst 0, 0, 0, 0, []), (57, .istore 4, 0, 0, 0, []), (59, .iload 4, 0, 0, 0, []), (61, .aload_n 0, 0, 0, 0, []), (62, .getfield 12, 0, 0, 0, []), (65, .getfield 68, 1, 2, 0, []), (68, .if_icmp .ge 58, 64, 0, 0, []), (71, .aload_n 0, 0, 0, 0, []), (72, .getfield 12, 0, 0, 0, []), (75, .getfield 170, 1, 5, 0, []), (78, .aload_n 0, 0, 0, 0, []), (79, .getfield 12, 0, 0, 0, []), (82, .getfield 150, 1, 6, 0, []), (85, .iload 4, 0, 0, 0, []), (87, .iaload, 0, 0, 0, []), (88, .aaload, 0, 0, 0, []), (89, .getfield 174, 6, 1, 0, []), (92, .istore 5, 0, 0, 0, []), (94, .aload_n 0, 0, 0, 0, []), (95, .iload_n 1, 0, 0, 0, []), (96, .iload_n 2, 0, 0, 0, []), (97, .iload 5, 0, 0, 0, []), (99, .invokevirtual 166, 29, 3, 0, []), (102, .istore 6, 0, 0, 0, []), (104, .iload 6, 0, 0, 0, []), (106, .ifCond .lt 14, 62, 0, 0, []), (109, .iload 6, 0, 0, 0, []), (111, .iload_n 3, 0, 0, 0, []), (112, .iload_n 3, 0, 0, 0, []), (113, .imul, 0, 0, 0, []), (114, .if_icmp .gt 6, 62, 0, 0, []), (117, .iload 5, 0, 0, 0, []), (119, .ireturn, 0, 0, 0, []), (120, .iinc 4 1, 0, 0, 1, []), (123, .goto (-64), 31, 0, 0, []), (126, .iconst (-1), 0, 0, (-1), []), (127, .ireturn, 0, 0, 0, [])]
-- 21 WhoIsWho.pairs(II)I
def am_c21 : List am_E := [(0, .aload_n 0, 0, 0, 0, []), (1, .getfield 12, 0, 0, 0, []), (4, .iload_n 1, 0, 0, 0, []), (5, .invokevirtual 36, 32, 1, 0, []), (8, .ifCond .eq 14, 10, 0, 0, []), (11, .aload_n 0, 0, 0, 0, []), (12, .getfield 12, 0, 0, 0, []), (15, .iload_n 2, 0, 0, 0, []), (16, .invokevirtual 36, 32, 1, 0, []), (19, .ifCond .ne 5, 12, 0, 0, []), (22, .iconst (-1), 0, 0, (-1), []), (23, .ireturn, 0, 0, 0, []), (24, .iload_n 1, 0, 0, 0, []), (25, .iload_n 2, 0, 0, 0, []), (26, .if_icmp .ne 6, 17, 0, 0, []), (29, .bipush (-2), 0, 0, (-2), []), (31, .ireturn, 0, 0, 0, []), (32, .aload_n 0, 0, 0, 0, []), (33, .getfield 28, 0, 2, 0, []), (36, .aload_n 0, 0, 0, 0, []), (37, .getfield 12, 0, 0, 0, []), (40, .iload_n 1, 0, 0, 0, []), (41, .iload_n 2, 0, 0, 0, []), (42, .invokevirtual 177, 58, 3, 0, []), (45, .aload_n 0, 0, 0, 0, []), (46, .getfield 28, 0, 2, 0, []), (49, .getfield 181, 5, 0, 0, []), (52, .ireturn, 0, 0, 0, [])]
-- 22 WhoIsWho.level(III)I
def am_c22 : List am_E := [(0, .aload_n 0, 0, 0, 0, []), (1, .getfield 12, 0, 0, 0, []), (4, .iload_n 1, 0, 0, 0, []), (5, .invokevirtual 36, 32, 1, 0, []), (8, .ifCond .eq 28, 18, 0, 0, []), (11, .aload_n 0, 0, 0, 0, []), (12, .getfield 12, 0, 0, 0, []), (15, .iload_n 2, 0, 0, 0, []), (16, .invokevirtual 36, 32, 1, 0, []), (19, .ifCond .eq 17, 18, 0, 0, []), (22, .iload_n 1, 0, 0, 0, []), (23, .iload_n 2, 0, 0, 0, []), (24, .if_icmp .eq 12, 18, 0, 0, []), (27, .iload_n 3, 0, 0, 0, []), (28, .iconst 0, 0, 0, 0, []), (29, .iconst 1, 0, 0, 1, []), (30, .invokestatic 40, 25, 3, 0, []), (33, .ifCond .ne 6, 20, 0, 0, []), (36, .ldc 113, 0, 0, (-2147483648), []), (38, .ireturn, 0, 0, 0, []), (39, .aload_n 0, 0, 0, 0, []), (40, .getfield 28, 0, 2, 0, []), (43, .aload_n 0, 0, 0, 0, []), (44, .getfield 12, 0, 0, 0, []), (47, .iload_n 1, 0, 0, 0, []), (48, .iload_n 2, 0, 0, 0, []), (49, .invokevirtual 177, 58, 3, 0, []), (52, .iload_n 3, 0, 0, 0, []), (53, .ifCond .ne 13, 33, 0, 0, []), (56, .aload_n 0, 0, 0, 0, []), (57, .getfield 28, 0, 2, 0, []), (60, .invokevirtual 184, 60, 0, 0, []), (63, .goto 10, 36, 0, 0, []), (66, .aload_n 0, 0, 0, 0, []), (67, .getfield 28, 0, 2, 0, []), (70, .invokevirtual 187, 61, 0, 0, []), (73, .ireturn, 0, 0, 0, [])]
-- 23 WhoIsWho.right(II)I
def am_c23 : List am_E := [(0, .aload_n 0, 0, 0, 0, []), (1, .getfield 12, 0, 0, 0, []), (4, .iload_n 1, 0, 0, 0, []), (5, .invokevirtual 36, 32, 1, 0, []), (8, .ifCond .eq 14, 10, 0, 0, []), (11, .aload_n 0, 0, 0, 0, []), (12, .getfield 12, 0, 0, 0, []), (15, .iload_n 2, 0, 0, 0, []), (16, .invokevirtual 36, 32, 1, 0, []), (19, .ifCond .ne 5, 12, 0, 0, []), (22, .iconst (-1), 0, 0, (-1), []), (23, .ireturn, 0, 0, 0, []), (24, .iload_n 1, 0, 0, 0, []), (25, .iload_n 2, 0, 0, 0, []), (26, .if_icmp .ne 6, 17, 0, 0, []), (29, .bipush (-2), 0, 0, (-2), []), (31, .ireturn, 0, 0, 0, []), (32, .aload_n 0, 0, 0, 0, []), (33, .getfield 28, 0, 2, 0, []), (36, .aload_n 0, 0, 0, 0, []), (37, .getfield 12, 0, 0, 0, []), (40, .iload_n 1, 0, 0, 0, []), (41, .iload_n 2, 0, 0, 0, []), (42, .invokevirtual 177, 58, 3, 0, []), (45, .aload_n 0, 0, 0, 0, []), (46, .getfield 28, 0, 2, 0, []), (49, .getfield 181, 5, 0, 0, []), (52, .ifCond .ne 6, 30, 0, 0, []), (55, .bipush (-3), 0, 0, (-3), []), (57, .ireturn, 0, 0, 0, []), (58, .aload_n 0, 0, 0, 0, []), (59, .getfield 12, 0, 0, 0, []), (62, .getfield 44, 1, 3, 0, []), (65, .iload_n 1, 0, 0, 0, []), (66, .iaload, 0, 0, 0, []), (67, .aload_n 0, 0, 0, 0, []), (68, .getfield 28, 0, 2, 0, []), (71, .invokevirtual 184, 60, 0, 0, []), (74, .isub, 0, 0, 0, []), (75, .invokestatic 190, 26, 1, 0, []), (78, .istore_n 3, 0, 0, 0, []), (79, .aload_n 0, 0, 0, 0, []), (80, .getfield 12, 0, 0, 0, []), (83, .getfield 48, 1, 4, 0, []), (86, .iload_n 1, 0, 0, 0, []), (87, .iaload, 0, 0, 0, []), (88, .aload_n 0, 0, 0, 0, []), (89, .getfield 28, 0, 2, 0, []), (92, .invokevirtual 187, 61, 0, 0, []), (95, .isub, 0, 0, 0, []), (96, .invokestatic 190, 26, 1, 0, []), (99, .istore 4, 0, 0, 0, []), (101, .iload_n 3, 0, 0, 0, []), (102, .aload_n 0, 0, 0, 0, []), (103, .getfield 12, 0, 0, 0, []), (106, .getfield 44, 1, 3, 0, []), (109, .iload_n 2, 0, 0, 0, []), (110, .iaload, 0, 0, 0, []), (111, .if_icmp .eq 7, 61, 0, 0, []), (114, .iconst 1, 0, 0, 1, []), (115, .goto 4, 62, 0, 0, []), (118, .iconst 0, 0, 0, 0, []), (119, .iload 4, 0, 0, 0, []), (121, .aload_n 0, 0, 0, 0, []), (122, .getfield 12, 0, 0, 0, []), (125, .getfield 48, 1, 4, 0, []), (128, .iload_n 2, 0, 0, 0, []), (129, .iaload, 0, 0, 0, []), (130, .if_icmp .eq 7, 71, 0, 0, []), (133, .iconst 1, 0, 0, 1, []), (134, .goto 4, 72, 0, 0, []), (137, .iconst 0, 0, 0, 0, []), (138, .iadd, 0, 0, 0, []), (139, .istore 5, 0, 0, 0, []), (141, .aload_n 0, 0, 0, 0, []), (142, .getfield 12, 0, 0, 0, []), (145, .getfield 44, 1, 3, 0, []), (148, .iload_n 2, 0, 0, 0, []), (149, .iload_n 3, 0, 0, 0, []), (150, .iastore, 0, 0, 0, []), (151, .aload_n 0, 0, 0, 0, []), (152, .getfield 12, 0, 0, 0, []), (155, .getfield 48, 1, 4, 0, []), (158, .iload_n 2, 0, 0, 0, []), (159, .iload 4, 0, 0, 0, []), (161, .iastore, 0, 0, 0, []), (162, .aload_n 0, 0, 0, 0, []), (163, .getfield 12, 0, 0, 0, []), (166, .iconst 1, 0, 0, 1, []), (167, .putfield 51, 1, 0, 0, []), (170, .iload 5, 0, 0, 0, []), (172, .ireturn, 0, 0, 0, [])]
-- 24 WhoIsWho.count(I)I
def am_c24 : List am_E := [(0, .iload_n 1, 0, 0, 0, []), (1, .tableswitch 84 0 5 #[39, 47, 55, 66, 74, 79], 25, 0, 0, [2, 6, 10, 15, 19, 22]), (40, .aload_n 0, 0, 0, 0, []), (41, .getfield 12, 0, 0, 0, []), (44, .getfield 32, 1, 1, 0, []), (47, .ireturn, 0, 0, 0, []), (48, .aload_n 0, 0, 0, 0, []), (49, .getfield 12, 0, 0, 0, []), (52, .getfield 68, 1, 2, 0, []), (55, .ireturn, 0, 0, 0, []), (56, .aload_n 0, 0, 0, 0, []), (57, .getfield 12, 0, 0, 0, []), (60, .invokevirtual 55, 35, 0, 0, []), (63, .getfield 59, 6, 2, 0, []), (66, .ireturn, 0, 0, 0, []), (67, .aload_n 0, 0, 0, 0, []), (68, .getfield 12, 0, 0, 0, []), (71, .invokevirtual 193, 41, 0, 0, []), (74, .ireturn, 0, 0, 0, []), (75, .aload_n 0, 0, 0, 0, []), (76, .invokevirtual 196, 30, 0, 0, []), (79, .ireturn, 0, 0, 0, []), (80, .aload_n 0, 0, 0, 0, []), (81, .invokevirtual 199, 31, 0, 0, []), (84, .ireturn, 0, 0, 0, []), (85, .iconst (-1), 0, 0, (-1), []), (86, .ireturn, 0, 0, 0, [])]
-- 25 WhoIsWho.within(III)Z
def am_c25 : List am_E := [(0, .iload_n 0, 0, 0, 0, []), (1, .iload_n 1, 0, 0, 0, []), (2, .if_icmp .lt 12, 8, 0, 0, []), (5, .iload_n 0, 0, 0, 0, []), (6, .iload_n 2, 0, 0, 0, []), (7, .if_icmp .gt 7, 8, 0, 0, []), (10, .iconst 1, 0, 0, 1, []), (11, .goto 4, 9, 0, 0, []), (14, .iconst 0, 0, 0, 0, []), (15, .ireturn, 1, 0, 0, [])]
-- 26 WhoIsWho.keptWithin(I)I
def am_c26 : List am_E := [(0, .bipush (-50), 0, 0, (-50), []), (2, .bipush 50, 0, 0, 50, []), (4, .iload_n 0, 0, 0, 0, []), (5, .invokestatic 202, 136, 2, 0, []), (8, .invokestatic 207, 135, 2, 0, []), (11, .ireturn, 0, 0, 0, [])]
-- 27 WhoIsWho.dotOfTrack(II)I
def am_c27 : List am_E := [(0, .iconst 0, 0, 0, 0, []), (1, .istore_n 3, 0, 0, 0, []), (2, .iload_n 3, 0, 0, 0, []), (3, .aload_n 0, 0, 0, 0, []), (4, .getfield 12, 0, 0, 0, []), (7, .getfield 170, 1, 5, 0, []), (10, .iload_n 1, 0, 0, 0, []), (11, .aaload, 0, 0, 0, []), (12, .getfield 59, 6, 2, 0, []), (15, .if_icmp .ge 29, 24, 0, 0, []), (18, .aload_n 0, 0, 0, 0, []), (19, .getfield 21, 0, 1, 0, []), (22, .getfield 104, 2, 0, 0, []), (25, .iconst 0, 0, 0, 0, []), (26, .aaload, 0, 0, 0, []), (27, .iload_n 1, 0, 0, 0, []), (28, .iload_n 3, 0, 0, 0, []), (29, .invokevirtual 134, 66, 2, 0, []), (32, .iload_n 2, 0, 0, 0, []), (33, .if_icmp .ne 5, 22, 0, 0, []), (36, .iload_n 3, 0, 0, 0, []), (37, .ireturn, 0, 0, 0, []), (38, .iinc 3 1, 0, 0, 1, []), (41, .goto (-39), 2, 0, 0, []), (44, .iconst (-1), 0, 0, (-1), []), (45, .ireturn, 0, 0, 0, [])]
-- 28 WhoIsWho.latestDot(II)I
def am_c28 : List am_E := [(0, .iconst (-1), 0, 0, (-1), []), (1, .istore_n 3, 0, 0, 0, []), (2, .iconst 0, 0, 0, 0, []), (3, .istore 4, 0, 0, 0, []), (5, .iload 4, 0, 0, 0, []), (7, .aload_n 0, 0, 0, 0, []), (8, .getfield 12, 0, 0, 0, []), (11, .getfield 68, 1, 2, 0, []), (14, .if_icmp .ge 63, 39, 0, 0, []), (17, .aload_n 0, 0, 0, 0, []), (18, .getfield 12, 0, 0, 0, []), (21, .getfield 150, 1, 6, 0, []), (24, .iload 4, 0, 0, 0, []), (26, .iaload, 0, 0, 0, []), (27, .istore 5, 0, 0, 0, []), (29, .aload_n 0, 0, 0, 0, []), (30, .getfield 12, 0, 0, 0, []), (33, .getfield 170, 1, 5, 0, []), (36, .iload 5, 0, 0, 0, []), (38, .aaload, 0, 0, 0, []), (39, .getfield 174, 6, 1, 0, []), (42, .iload_n 2, 0, 0, 0, []), (43, .if_icmp .le 6, 24, 0, 0, []), (46, .goto 31, 39, 0, 0, []), (49, .aload_n 0, 0, 0, 0, []), (50, .iload 5, 0, 0, 0, []), (52, .iload_n 1, 0, 0, 0, []), (53, .invokevirtual 163, 27, 2, 0, []), (56, .istore 6, 0, 0, 0, []), (58, .iload 6, 0, 0, 0, []), (60, .ifCond .lt 11, 37, 0, 0, []), (63, .iconst 4, 0, 0, 4, []), (64, .iload 5, 0, 0, 0, []), (66, .imul, 0, 0, 0, []), (67, .iload 6, 0, 0, 0, []), (69, .iadd, 0, 0, 0, []), (70, .istore_n 3, 0, 0, 0, []), (71, .iinc 4 1, 0, 0, 1, []), (74, .goto (-69), 4, 0, 0, []), (77, .iload_n 3, 0, 0, 0, []), (78, .ireturn, 0, 0, 0, [])]
-- 29 WhoIsWho.squareApart(III)I
def am_c29 : List am_E := [(0, .aload_n 0, 0, 0, 0, []), (1, .iload_n 1, 0, 0, 0, []), (2, .iload_n 3, 0, 0, 0, []), (3, .invokevirtual 210, 28, 2, 0, []), (6, .istore 4, 0, 0, 0, []), (8, .aload_n 0, 0, 0, 0, []), (9, .iload_n 2, 0, 0, 0, []), (10, .iload_n 3, 0, 0, 0, []), (11, .invokevirtual 210, 28, 2, 0, []), (14, .istore 5, 0, 0, 0, []), (16, .iload 4, 0, 0, 0, []), (18, .ifCond .lt 8, 14, 0, 0, []), (21, .iload 5, 0, 0, 0, []), (23, .ifCond .ge 5, 16, 0, 0, []), (26, .iconst (-1), 0, 0, (-1), []), (27, .ireturn, 0, 0, 0, []), (28, .aload_n 0, 0, 0, 0, []), (29, .getfield 12, 0, 0, 0, []), (32, .iload 4, 0, 0, 0, []), (34, .iconst 4, 0, 0, 4, []), (35, .idiv, 0, 0, 0, []), (36, .iload 4, 0, 0, 0, []), (38, .iconst 4, 0, 0, 4, []), (39, .irem, 0, 0, 0, []), (40, .invokevirtual 213, 39, 2, 0, []), (43, .aload_n 0, 0, 0, 0, []), (44, .getfield 12, 0, 0, 0, []), (47, .iload 5, 0, 0, 0, []), (49, .iconst 4, 0, 0, 4, []), (50, .idiv, 0, 0, 0, []), (51, .iload 5, 0, 0, 0, []), (53, .iconst 4, 0, 0, 4, []), (54, .irem, 0, 0, 0, []), (55, .invokevirtual 213, 39, 2, 0, []), (58, .isub, 0, 0, 0, []), (59, .istore 6, 0, 0, 0, []), (61, .aload_n 0, 0, 0, 0, []), (62, .getfield 12, 0, 0, 0, []), (65, .iload 4, 0, 0, 0, []), (67, .iconst 4, 0, 0, 4, []), (68, .idiv, 0, 0, 0, []), (69, .iload 4, 0, 0, 0, []), (71, .iconst 4, 0, 0, 4, []), (72, .irem, 0, 0, 0, []), (73, .invokevirtual 216, 40, 2, 0, []), (76, .aload_n 0, 0, 0, 0, []), (77, .getfield 12, 0, 0, 0, []), (80, .iload 5, 0, 0, 0, []), (82, .iconst 4, 0, 0, 4, []), (83, .idiv, 0, 0, 0, []), (84, .iload 5, 0, 0, 0, []), (86, .iconst 4, 0, 0, 4, []), (87, .irem, 0, 0, 0, []), (88, .invokevirtual 216, 40, 2, 0, []), (91, .isub, 0, 0, 0, []), (92, .istore 7, 0, 0, 0, []), (94, .iload 6, 0, 0, 0, []), (96, .iload 6, 0, 0, 0, []), (98, .imul, 0, 0, 0, []), (99, .iload 7, 0, 0, 0, []), (101, .iload 7, 0, 0, 0, []), (103, .imul, 0, 0, 0, []), (104, .iadd, 0, 0, 0, []), (105, .ireturn, 0, 0, 0, [])]
-- 30 WhoIsWho.countFalse()I
def am_c30 : List am_E := [(0, .aload_n 0, 0, 0, 0, []), (1, .getfield 21, 0, 1, 0, []), (4, .aload_n 0, 0, 0, 0, []), (5, .getfield 12, 0, 0, 0, []), (8, .invokevirtual 94, 42, 1, 0, []), (11, .iconst 0, 0, 0, 0, []), (12, .istore_n 1, 0, 0, 0, []), (13, .iconst 0, 0, 0, 0, []), (14, .istore_n 2, 0, 0, 0, []), (15, .iload_n 2, 0, 0, 0, []), (16, .aload_n 0, 0, 0, 0, []), (17, .getfield 12, 0, 0, 0, []), (20, .getfield 68, 1, 2, 0, []), (23, .if_icmp .ge 59, 44, 0, 0, []), (26, .iconst 0, 0, 0, 0, []), (27, .istore_n 3, 0, 0, 0, []), (28, .iload_n 3, 0, 0, 0, []), (29, .aload_n 0, 0, 0, 0, []), (30, .getfield 12, 0, 0, 0, []), (33, .getfield 170, 1, 5, 0, []), (36, .iload_n 2, 0, 0, 0, []), (37, .aaload, 0, 0, 0, []), (38, .getfield 59, 6, 2, 0, []), (41, .if_icmp .ge 35, 42, 0, 0, []), (44, .iload_n 1, 0, 0, 0, []), (45, .aload_n 0, 0, 0, 0, []), (46, .getfield 21, 0, 1, 0, []), (49, .getfield 104, 2, 0, 0, []), (52, .iconst 0, 0, 0, 0, []), (53, .aaload, 0, 0, 0, []), (54, .iload_n 2, 0, 0, 0, []), (55, .iload_n 3, 0, 0, 0, []), (56, .invokevirtual 134, 66, 2, 0, []), (59, .iconst (-1), 0, 0, (-1), []), (60, .if_icmp .ne 7, 37, 0, 0, []), (63, .iconst 1, 0, 0, 1, []), (64, .goto 4, 38, 0, 0, []), (67, .iconst 0, 0, 0, 0, []), (68, .iadd, 0, 0, 0, []), (69, .istore_n 1, 0, 0, 0, []), (70, .iinc 3 1, 0, 0, 1, []), (73, .goto (-45), 16, 0, 0, []), (76, .iinc 2 1, 0, 0, 1, []), (79, .goto (-64), 9, 0, 0, []), (82, .iload_n 1, 0, 0, 0, []), (83, .ireturn, 0, 0, 0, [])]
-- 31 WhoIsWho.countUnsure()I
def am_c31 : List am_E := [(0, .aload_n 0, 0, 0, 0, []), (1, .getfield 21, 0, 1, 0, []), (4, .aload_n 0, 0, 0, 0, []), (5, .getfield 12, 0, 0, 0, []), (8, .invokevirtual 94, 42, 1, 0, []), (11, .iconst 0, 0, 0, 0, []), (12, .istore_n 1, 0, 0, 0, []), (13, .iconst 0, 0, 0, 0, []), (14, .istore_n 2, 0, 0, 0, []), (15, .iload_n 2, 0, 0, 0, []), (16, .aload_n 0, 0, 0, 0, []), (17, .getfield 12, 0, 0, 0, []), (20, .getfield 68, 1, 2, 0, []), (23, .if_icmp .ge 53, 40, 0, 0, []), (26, .iconst 0, 0, 0, 0, []), (27, .istore_n 3, 0, 0, 0, []), (28, .iload_n 3, 0, 0, 0, []), (29, .aload_n 0, 0, 0, 0, []), (30, .getfield 12, 0, 0, 0, []), (33, .getfield 170, 1, 5, 0, []), (36, .iload_n 2, 0, 0, 0, []), (37, .aaload, 0, 0, 0, []), (38, .getfield 59, 6, 2, 0, []), (41, .if_icmp .ge 29, 38, 0, 0, []), (44, .iload_n 1, 0, 0, 0, []), (45, .aload_n 0, 0, 0, 0, []), (46, .getfield 21, 0, 1, 0, []), (49, .iload_n 2, 0, 0, 0, []), (50, .iload_n 3, 0, 0, 0, []), (51, .invokevirtual 156, 47, 2, 0, []), (54, .ifCond .eq 7, 33, 0, 0, []), (57, .iconst 0, 0, 0, 0, []), (58, .goto 4, 34, 0, 0, []), (61, .iconst 1, 0, 0, 1, []), (62, .iadd, 0, 0, 0, []), (63, .istore_n 1, 0, 0, 0, []), (64, .iinc 3 1, 0, 0, 1, []), (67, .goto (-39), 16, 0, 0, []), (70, .iinc 2 1, 0, 0, 1, []), (73, .goto (-58), 9, 0, 0, []), (76, .iload_n 1, 0, 0, 0, []), (77, .ireturn, 0, 0, 0, [])]
-- 32 WhoIsWho$Told.isWatcher(I)Z
def am_c32 : List am_E := [(0, .iload_n 1, 0, 0, 0, []), (1, .ifCond .lt 15, 8, 0, 0, []), (4, .iload_n 1, 0, 0, 0, []), (5, .aload_n 0, 0, 0, 0, []), (6, .getfield 43, 1, 1, 0, []), (9, .if_icmp .ge 7, 8, 0, 0, []), (12, .iconst 1, 0, 0, 1, []), (13, .goto 4, 9, 0, 0, []), (16, .iconst 0, 0, 0, 0, []), (17, .ireturn, 1, 0, 0, [])]
-- 33 WhoIsWho$Told.isScan(I)Z
def am_c33 : List am_E := [(0, .iload_n 1, 0, 0, 0, []), (1, .ifCond .lt 15, 8, 0, 0, []), (4, .iload_n 1, 0, 0, 0, []), (5, .aload_n 0, 0, 0, 0, []), (6, .getfield 47, 1, 2, 0, []), (9, .if_icmp .ge 7, 8, 0, 0, []), (12, .iconst 1, 0, 0, 1, []), (13, .goto 4, 9, 0, 0, []), (16, .iconst 0, 0, 0, 0, []), (17, .ireturn, 1, 0, 0, [])]
-- 34 WhoIsWho$Told.isDot(II)Z
def am_c34 : List am_E := [(0, .aload_n 0, 0, 0, 0, []), (1, .iload_n 1, 0, 0, 0, []), (2, .invokevirtual 50, 33, 1, 0, []), (5, .ifCond .eq 24, 15, 0, 0, []), (8, .iload_n 2, 0, 0, 0, []), (9, .ifCond .lt 20, 15, 0, 0, []), (12, .iload_n 2, 0, 0, 0, []), (13, .aload_n 0, 0, 0, 0, []), (14, .getfield 20, 1, 5, 0, []), (17, .iload_n 1, 0, 0, 0, []), (18, .aaload, 0, 0, 0, []), (19, .getfield 54, 6, 2, 0, []), (22, .if_icmp .ge 7, 15, 0, 0, []), (25, .iconst 1, 0, 0, 1, []), (26, .goto 4, 16, 0, 0, []), (29, .iconst 0, 0, 0, 0, []), (30, .ireturn, 1, 0, 0, [])]
-- 35 WhoIsWho$Told.waiting()LWhoIsWho$Scan;
def am_c35 : List am_E := [(0, .aload_n 0, 0, 0, 0, []), (1, .getfield 20, 1, 5, 0, []), (4, .aload_n 0, 0, 0, 0, []), (5, .getfield 47, 1, 2, 0, []), (8, .aaload, 0, 0, 0, []), (9, .areturn, 4, 0, 0, [])]
-- 36 WhoIsWho$Told.closeWaiting(II)V
def am_c36 : List am_E := [(0, .aload_n 0, 0, 0, 0, []), (1, .getfield 47, 1, 2, 0, []), (4, .bipush 12, 0, 0, 12, []), (6, .if_icmp .ge 52, 31, 0, 0, []), (9, .aload_n 0, 0, 0, 0, []), (10, .getfield 20, 1, 5, 0, []), (13, .aload_n 0, 0, 0, 0, []), (14, .getfield 47, 1, 2, 0, []), (17, .aaload, 0, 0, 0, []), (18, .iload_n 1, 0, 0, 0, []), (19, .putfield 57, 6, 0, 0, []), (22, .aload_n 0, 0, 0, 0, []), (23, .getfield 20, 1, 5, 0, []), (26, .aload_n 0, 0, 0, 0, []), (27, .getfield 47, 1, 2, 0, []), (30, .aaload, 0, 0, 0, []), (31, .iload_n 2, 0, 0, 0, []), (32, .putfield 60, 6, 1, 0, []), (35, .aload_n 0, 0, 0, 0, []), (36, .dup, 0, 0, 0, []), (37, .getfield 47, 1, 2, 0, []), (40, .iconst 1, 0, 0, 1, []), (41, .iadd, 0, 0, 0, []), (42, .putfield 47, 1, 2, 0, []), (45, .aload_n 0, 0, 0, 0, []), (46, .getfield 20, 1, 5, 0, []), (49, .aload_n 0, 0, 0, 0, []), (50, .getfield 47, 1, 2, 0, []), (53, .aaload, 0, 0, 0, []), (54, .iconst 0, 0, 0, 0, []), (55, .putfield 54, 6, 2, 0, []), (58, .return_, 2, 0, 0, [])]
-- 37 WhoIsWho$Told.remove(I)V
def am_c37 : List am_E := [(0, .aload_n 0, 0, 0, 0, []), (1, .iload_n 1, 0, 0, 0, []), (2, .invokevirtual 50, 33, 1, 0, []), (5, .ifCond .ne 4, 5, 0, 0, []), (8, .return_, 2, 0, 0, []), (9, .aload_n 0, 0, 0, 0, []), (10, .getfield 20, 1, 5, 0, []), (13, .iload_n 1, 0, 0, 0, []), (14, .aaload, 0, 0, 0, []), (15, .astore_n 2, 0, 0, 0, []), (16, .iload_n 1, 0, 0, 0, []), (17, .istore_n 3, 0, 0, 0, []), (18, .iload_n 3, 0, 0, 0, []), (19, .aload_n 0, 0, 0, 0, []), (20, .getfield 47, 1, 2, 0, []), (23, .if_icmp .ge 23, 28, 0, 0, []), (26, .aload_n 0, 0, 0, 0, []), (27, .getfield 20, 1, 5, 0, []), (30, .iload_n 3, 0, 0, 0, []), (31, .aload_n 0, 0, 0, 0, []), (32, .getfield 20, 1, 5, 0, []), (35, .iload_n 3, 0, 0, 0, []), (36, .iconst 1, 0, 0, 1, []), (37, .iadd, 0, 0, 0, []), (38, .aaload, 0, 0, 0, []), (39, .aastore, 0, 0, 0, []), (40, .iinc 3 1, 0, 0, 1, []), (43, .goto (-25), 12, 0, 0, []), (46, .aload_n 0, 0, 0, 0, []), (47, .getfield 20, 1, 5, 0, []), (50, .aload_n 0, 0, 0, 0, []), (51, .getfield 47, 1, 2, 0, []), (54, .aload_n 2, 0, 0, 0, []), (55, .aastore, 0, 0, 0, []), (56, .aload_n 0, 0, 0, 0, []), (57, .dup, 0, 0, 0, []), (58, .getfield 47, 1, 2, 0, []), (61, .iconst 1, 0, 0, 1, []), (62, .isub, 0, 0, 0, []), (63, .putfield 47, 1, 2, 0, []), (66, .return_, 2, 0, 0, [])]
-- 38 WhoIsWho$Told.sortOrder()V
def am_c38 : List am_E := [(0, .iconst 0, 0, 0, 0, []), (1, .istore_n 1, 0, 0, 0, []), (2, .iload_n 1, 0, 0, 0, []), (3, .aload_n 0, 0, 0, 0, []), (4, .getfield 47, 1, 2, 0, []), (7, .if_icmp .ge 70, 45, 0, 0, []), (10, .iload_n 1, 0, 0, 0, []), (11, .istore_n 2, 0, 0, 0, []), (12, .iload_n 2, 0, 0, 0, []), (13, .ifCond .le 51, 38, 0, 0, []), (16, .aload_n 0, 0, 0, 0, []), (17, .getfield 20, 1, 5, 0, []), (20, .aload_n 0, 0, 0, 0, []), (21, .getfield 24, 1, 6, 0, []), (24, .iload_n 2, 0, 0, 0, []), (25, .iconst 1, 0, 0, 1, []), (26, .isub, 0, 0, 0, []), (27, .iaload, 0, 0, 0, []), (28, .aaload, 0, 0, 0, []), (29, .getfield 60, 6, 1, 0, []), (32, .aload_n 0, 0, 0, 0, []), (33, .getfield 20, 1, 5, 0, []), (36, .iload_n 1, 0, 0, 0, []), (37, .aaload, 0, 0, 0, []), (38, .getfield 60, 6, 1, 0, []), (41, .if_icmp .le 23, 38, 0, 0, []), (44, .aload_n 0, 0, 0, 0, []), (45, .getfield 24, 1, 6, 0, []), (48, .iload_n 2, 0, 0, 0, []), (49, .aload_n 0, 0, 0, 0, []), (50, .getfield 24, 1, 6, 0, []), (53, .iload_n 2, 0, 0, 0, []), (54, .iconst 1, 0, 0, 1, []), (55, .isub, 0, 0, 0, []), (56, .iaload, 0, 0, 0, []), (57, .iastore, 0, 0, 0, []), (58, .iinc 2 (-1), 0, 0, (-1), []), (61, .goto (-49), 8, 0, 0, []), (64, .aload_n 0, 0, 0, 0, []), (65, .getfield 24, 1, 6, 0, []), (68, .iload_n 2, 0, 0, 0, []), (69, .iload_n 1, 0, 0, 0, []), (70, .iastore, 0, 0, 0, []), (71, .iinc 1 1, 0, 0, 1, []), (74, .goto (-72), 2, 0, 0, []), (77, .return_, 2, 0, 0, [])]
-- 39 WhoIsWho$Told.rightX(II)I
def am_c39 : List am_E := [(0, .aload_n 0, 0, 0, 0, []), (1, .getfield 20, 1, 5, 0, []), (4, .iload_n 1, 0, 0, 0, []), (5, .aaload, 0, 0, 0, []), (6, .getfield 63, 6, 3, 0, []), (9, .iload_n 2, 0, 0, 0, []), (10, .iaload, 0, 0, 0, []), (11, .aload_n 0, 0, 0, 0, []), (12, .getfield 9, 1, 3, 0, []), (15, .aload_n 0, 0, 0, 0, []), (16, .getfield 20, 1, 5, 0, []), (19, .iload_n 1, 0, 0, 0, []), (20, .aaload, 0, 0, 0, []), (21, .getfield 57, 6, 0, 0, []), (24, .iaload, 0, 0, 0, []), (25, .iadd, 0, 0, 0, []), (26, .ireturn, 0, 0, 0, [])]
-- 40 WhoIsWho$Told.rightY(II)I
def am_c40 : List am_E := [(0, .aload_n 0, 0, 0, 0, []), (1, .getfield 20, 1, 5, 0, []), (4, .iload_n 1, 0, 0, 0, []), (5, .aaload, 0, 0, 0, []), (6, .getfield 66, 6, 4, 0, []), (9, .iload_n 2, 0, 0, 0, []), (10, .iaload, 0, 0, 0, []), (11, .aload_n 0, 0, 0, 0, []), (12, .getfield 15, 1, 4, 0, []), (15, .aload_n 0, 0, 0, 0, []), (16, .getfield 20, 1, 5, 0, []), (19, .iload_n 1, 0, 0, 0, []), (20, .aaload, 0, 0, 0, []), (21, .getfield 57, 6, 0, 0, []), (24, .iaload, 0, 0, 0, []), (25, .iadd, 0, 0, 0, []), (26, .ireturn, 0, 0, 0, [])]
-- 41 WhoIsWho$Told.countDots()I
def am_c41 : List am_E := [(0, .iconst 0, 0, 0, 0, []), (1, .istore_n 1, 0, 0, 0, []), (2, .iconst 0, 0, 0, 0, []), (3, .istore_n 2, 0, 0, 0, []), (4, .iload_n 2, 0, 0, 0, []), (5, .aload_n 0, 0, 0, 0, []), (6, .getfield 47, 1, 2, 0, []), (9, .if_icmp .ge 21, 18, 0, 0, []), (12, .iload_n 1, 0, 0, 0, []), (13, .aload_n 0, 0, 0, 0, []), (14, .getfield 20, 1, 5, 0, []), (17, .iload_n 2, 0, 0, 0, []), (18, .aaload, 0, 0, 0, []), (19, .getfield 54, 6, 2, 0, []), (22, .iadd, 0, 0, 0, []), (23, .istore_n 1, 0, 0, 0, []), (24, .iinc 2 1, 0, 0, 1, []), (27, .goto (-23), 4, 0, 0, []), (30, .iload_n 1, 0, 0, 0, []), (31, .ireturn, 0, 0, 0, [])]
-- 42 WhoIsWho$Keeper.refresh(LWhoIsWho$Told;)V
def am_c42 : List am_E := [(0, .aload_n 1, 0, 0, 0, []), (1, .getfield 32, 1, 0, 0, []), (4, .ifCond .ne 4, 4, 0, 0, []), (7, .return_, 2, 0, 0, []), (8, .aload_n 1, 0, 0, 0, []), (9, .iconst 0, 0, 0, 0, []), (10, .putfield 32, 1, 0, 0, []), (13, .aload_n 1, 0, 0, 0, []), (14, .invokevirtual 38, 38, 0, 0, []), (17, .aload_n 0, 0, 0, 0, []), (18, .getfield 23, 2, 3, 0, []), (21, .aload_n 1, 0, 0, 0, []), (22, .getfield 41, 1, 7, 0, []), (25, .invokevirtual 45, 48, 1, 0, []), (28, .aload_n 0, 0, 0, 0, []), (29, .getfield 11, 2, 0, 0, []), (32, .iconst 0, 0, 0, 0, []), (33, .aaload, 0, 0, 0, []), (34, .invokevirtual 49, 64, 0, 0, []), (37, .aload_n 0, 0, 0, 0, []), (38, .iconst 1, 0, 0, 1, []), (39, .putfield 28, 2, 1, 0, []), (42, .iconst 0, 0, 0, 0, []), (43, .istore_n 2, 0, 0, 0, []), (44, .iload_n 2, 0, 0, 0, []), (45, .aload_n 1, 0, 0, 0, []), (46, .getfield 52, 1, 2, 0, []), (49, .if_icmp .ge 20, 37, 0, 0, []), (52, .aload_n 0, 0, 0, 0, []), (53, .aload_n 1, 0, 0, 0, []), (54, .aload_n 1, 0, 0, 0, []), (55, .getfield 55, 1, 6, 0, []), (58, .iload_n 2, 0, 0, 0, []), (59, .iaload, 0, 0, 0, []), (60, .invokevirtual 58, 43, 2, 0, []), (63, .iinc 2 1, 0, 0, 1, []), (66, .goto (-22), 24, 0, 0, []), (69, .return_, 2, 0, 0, [])]
-- 43 WhoIsWho$Keeper.takeIn(LWhoIsWho$Told;I)V
def am_c43 : List am_E := [(0, .aload_n 0, 0, 0, 0, []), (1, .getfield 23, 2, 3, 0, []), (4, .getfield 62, 3, 0, 0, []), (7, .astore_n 3, 0, 0, 0, []), (8, .aload_n 3, 0, 0, 0, []), (9, .aload_n 1, 0, 0, 0, []), (10, .getfield 41, 1, 7, 0, []), (13, .iconst 5, 0, 0, 5, []), (14, .iaload, 0, 0, 0, []), (15, .invokevirtual 66, 55, 1, 0, []), (18, .iconst 0, 0, 0, 0, []), (19, .istore 4, 0, 0, 0, []), (21, .iload 4, 0, 0, 0, []), (23, .aload_n 0, 0, 0, 0, []), (24, .getfield 28, 2, 1, 0, []), (27, .if_icmp .ge 27, 28, 0, 0, []), (30, .aload_n 0, 0, 0, 0, []), (31, .getfield 23, 2, 3, 0, []), (34, .iload 4, 0, 0, 0, []), (36, .aload_n 0, 0, 0, 0, []), (37, .getfield 11, 2, 0, 0, []), (40, .iload 4, 0, 0, 0, []), (42, .aaload, 0, 0, 0, []), (43, .aload_n 1, 0, 0, 0, []), (44, .iload_n 2, 0, 0, 0, []), (45, .invokevirtual 72, 49, 4, 0, []), (48, .iinc 4 1, 0, 0, 1, []), (51, .goto (-30), 12, 0, 0, []), (54, .iconst 0, 0, 0, 0, []), (55, .istore 4, 0, 0, 0, []), (57, .iload 4, 0, 0, 0, []), (59, .aload_n 3, 0, 0, 0, []), (60, .getfield 76, 4, 0, 0, []), (63, .if_icmp .ge 52, 59, 0, 0, []), (66, .aload_n 3, 0, 0, 0, []), (67, .getfield 79, 4, 2, 0, []), (70, .iload 4, 0, 0, 0, []), (72, .aaload, 0, 0, 0, []), (73, .astore 5, 0, 0, 0, []), (75, .aload_n 0, 0, 0, 0, []), (76, .getfield 17, 2, 2, 0, []), (79, .iload 4, 0, 0, 0, []), (81, .aaload, 0, 0, 0, []), (82, .aload_n 0, 0, 0, 0, []), (83, .getfield 11, 2, 0, 0, []), (86, .aload 5, 0, 0, 0, []), (88, .getfield 83, 7, 0, 0, []), (91, .aaload, 0, 0, 0, []), (92, .invokevirtual 88, 65, 1, 0, []), (95, .aload_n 0, 0, 0, 0, []), (96, .getfield 17, 2, 2, 0, []), (99, .iload 4, 0, 0, 0, []), (101, .aaload, 0, 0, 0, []), (102, .aload 5, 0, 0, 0, []), (104, .aload_n 1, 0, 0, 0, []), (105, .iload_n 2, 0, 0, 0, []), (106, .invokevirtual 92, 71, 3, 0, []), (109, .iinc 4 1, 0, 0, 1, []), (112, .goto (-55), 30, 0, 0, []), (115, .aload_n 0, 0, 0, 0, []), (116, .getfield 11, 2, 0, 0, []), (119, .astore 4, 0, 0, 0, []), (121, .aload_n 0, 0, 0, 0, []), (122, .aload_n 0, 0, 0, 0, []), (123, .getfield 17, 2, 2, 0, []), (126, .putfield 11, 2, 0, 0, []), (129, .aload_n 0, 0, 0, 0, []), (130, .aload 4, 0, 0, 0, []), (132, .putfield 17, 2, 2, 0, []), (135, .aload_n 0, 0, 0, 0, []), (136, .aload_n 3, 0, 0, 0, []), (137, .getfield 76, 4, 0, 0, []), (140, .putfield 28, 2, 1, 0, []), (143, .return_, 2, 0, 0, [])]
-- 44 WhoIsWho$Keeper.isWorld(I)Z
def am_c44 : List am_E := [(0, .iload_n 1, 0, 0, 0, []), (1, .ifCond .lt 15, 8, 0, 0, []), (4, .iload_n 1, 0, 0, 0, []), (5, .aload_n 0, 0, 0, 0, []), (6, .getfield 28, 2, 1, 0, []), (9, .if_icmp .ge 7, 8, 0, 0, []), (12, .iconst 1, 0, 0, 1, []), (13, .goto 4, 9, 0, 0, []), (16, .iconst 0, 0, 0, 0, []), (17, .ireturn, 1, 0, 0, [])]
-- 45 WhoIsWho$Keeper.isTrack(II)Z
def am_c45 : List am_E := [(0, .aload_n 0, 0, 0, 0, []), (1, .iload_n 1, 0, 0, 0, []), (2, .invokevirtual 96, 44, 1, 0, []), (5, .ifCond .eq 24, 15, 0, 0, []), (8, .iload_n 2, 0, 0, 0, []), (9, .ifCond .lt 20, 15, 0, 0, []), (12, .iload_n 2, 0, 0, 0, []), (13, .aload_n 0, 0, 0, 0, []), (14, .getfield 11, 2, 0, 0, []), (17, .iload_n 1, 0, 0, 0, []), (18, .aaload, 0, 0, 0, []), (19, .getfield 100, 8, 1, 0, []), (22, .if_icmp .ge 7, 15, 0, 0, []), (25, .iconst 1, 0, 0, 1, []), (26, .goto 4, 16, 0, 0, []), (29, .iconst 0, 0, 0, 0, []), (30, .ireturn, 1, 0, 0, [])]
-- 46 WhoIsWho$Keeper.allMark(II)Z
def am_c46 : List am_E := [(0, .iconst 0, 0, 0, 0, []), (1, .istore_n 3, 0, 0, 0, []), (2, .iload_n 3, 0, 0, 0, []), (3, .aload_n 0, 0, 0, 0, []), (4, .getfield 28, 2, 1, 0, []), (7, .if_icmp .ge 25, 18, 0, 0, []), (10, .aload_n 0, 0, 0, 0, []), (11, .getfield 11, 2, 0, 0, []), (14, .iload_n 3, 0, 0, 0, []), (15, .aaload, 0, 0, 0, []), (16, .iload_n 1, 0, 0, 0, []), (17, .iload_n 2, 0, 0, 0, []), (18, .invokevirtual 103, 70, 2, 0, []), (21, .ifCond .ne 5, 16, 0, 0, []), (24, .iconst 0, 0, 0, 0, []), (25, .ireturn, 1, 0, 0, []), (26, .iinc 3 1, 0, 0, 1, []), (29, .goto (-27), 2, 0, 0, []), (32, .iconst 1, 0, 0, 1, []), (33, .ireturn, 1, 0, 0, [])]
-- 47 WhoIsWho$Keeper.allAgree(II)Z
def am_c47 : List am_E := [(0, .iconst 1, 0, 0, 1, []), (1, .istore_n 3, 0, 0, 0, []), (2, .iload_n 3, 0, 0, 0, []), (3, .aload_n 0, 0, 0, 0, []), (4, .getfield 28, 2, 1, 0, []), (7, .if_icmp .ge 36, 25, 0, 0, []), (10, .aload_n 0, 0, 0, 0, []), (11, .getfield 11, 2, 0, 0, []), (14, .iload_n 3, 0, 0, 0, []), (15, .aaload, 0, 0, 0, []), (16, .iload_n 1, 0, 0, 0, []), (17, .iload_n 2, 0, 0, 0, []), (18, .invokevirtual 107, 66, 2, 0, []), (21, .aload_n 0, 0, 0, 0, []), (22, .getfield 11, 2, 0, 0, []), (25, .iconst 0, 0, 0, 0, []), (26, .aaload, 0, 0, 0, []), (27, .iload_n 1, 0, 0, 0, []), (28, .iload_n 2, 0, 0, 0, []), (29, .invokevirtual 107, 66, 2, 0, []), (32, .if_icmp .eq 5, 23, 0, 0, []), (35, .iconst 0, 0, 0, 0, []), (36, .ireturn, 1, 0, 0, []), (37, .iinc 3 1, 0, 0, 1, []), (40, .goto (-38), 2, 0, 0, []), (43, .iconst 1, 0, 0, 1, []), (44, .ireturn, 1, 0, 0, [])]
-- 48 WhoIsWho$Dealer.goBy([I)V
def am_c48 : List am_E := [(0, .aload_n 0, 0, 0, 0, []), (1, .aload_n 1, 0, 0, 0, []), (2, .iconst 1, 0, 0, 1, []), (3, .iaload, 0, 0, 0, []), (4, .putfield 32, 3, 1, 0, []), (7, .aload_n 0, 0, 0, 0, []), (8, .aload_n 1, 0, 0, 0, []), (9, .iconst 2, 0, 0, 2, []), (10, .iaload, 0, 0, 0, []), (11, .putfield 36, 3, 2, 0, []), (14, .aload_n 0, 0, 0, 0, []), (15, .aload_n 1, 0, 0, 0, []), (16, .iconst 3, 0, 0, 3, []), (17, .iaload, 0, 0, 0, []), (18, .putfield 39, 3, 3, 0, []), (21, .aload_n 0, 0, 0, 0, []), (22, .aload_n 1, 0, 0, 0, []), (23, .iconst 0, 0, 0, 0, []), (24, .iaload, 0, 0, 0, []), (25, .i2l, 0, 0, 0, []), (26, .aload_n 1, 0, 0, 0, []), (27, .iconst 0, 0, 0, 0, []), (28, .iaload, 0, 0, 0, []), (29, .i2l, 0, 0, 0, []), (30, .lmul, 0, 0, 0, []), (31, .putfield 42, 3, 4, 0, []), (34, .return_, 2, 0, 0, [])]
-- 49 WhoIsWho$Dealer.deal(ILWhoIsWho$World;LWhoIsWho$Told;I)V
def am_c49 : List am_E := [(0, .aload_n 0, 0, 0, 0, []), (1, .iload_n 1, 0, 0, 0, []), (2, .putfield 46, 3, 5, 0, []), (5, .aload_n 0, 0, 0, 0, []), (6, .aload_n 2, 0, 0, 0, []), (7, .getfield 49, 8, 1, 0, []), (10, .putfield 54, 3, 6, 0, []), (13, .aload_n 0, 0, 0, 0, []), (14, .aload_n 3, 0, 0, 0, []), (15, .getfield 55, 1, 5, 0, []), (18, .iload 4, 0, 0, 0, []), (20, .aaload, 0, 0, 0, []), (21, .getfield 61, 6, 2, 0, []), (24, .putfield 66, 3, 7, 0, []), (27, .aload_n 0, 0, 0, 0, []), (28, .aload_n 2, 0, 0, 0, []), (29, .aload_n 3, 0, 0, 0, []), (30, .iload 4, 0, 0, 0, []), (32, .invokevirtual 67, 50, 3, 0, []), (35, .aload_n 0, 0, 0, 0, []), (36, .invokevirtual 71, 52, 0, 0, []), (39, .aload_n 0, 0, 0, 0, []), (40, .iconst 0, 0, 0, 0, []), (41, .aload_n 2, 0, 0, 0, []), (42, .getfield 74, 8, 0, 0, []), (45, .aload_n 2, 0, 0, 0, []), (46, .invokevirtual 77, 68, 0, 0, []), (49, .iconst 0, 0, 0, 0, []), (50, .invokestatic 81, 54, 5, 0, []), (53, .return_, 2, 0, 0, [])]
-- 50 WhoIsWho$Dealer.setTolls(LWhoIsWho$World;LWhoIsWho$Told;I)V
def am_c50 : List am_E := [(0, .aload_n 2, 0, 0, 0, []), (1, .getfield 55, 1, 5, 0, []), (4, .iload_n 3, 0, 0, 0, []), (5, .aaload, 0, 0, 0, []), (6, .astore 4, 0, 0, 0, []), (8, .iconst 0, 0, 0, 0, []), (9, .istore 5, 0, 0, 0, []), (11, .iload 5, 0, 0, 0, []), (13, .aload_n 0, 0, 0, 0, []), (14, .getfield 54, 3, 6, 0, []), (17, .if_icmp .ge 154, 86, 0, 0, []), (20, .aload_n 1, 0, 0, 0, []), (21, .getfield 85, 8, 2, 0, []), (24, .iload 5, 0, 0, 0, []), (26, .aaload, 0, 0, 0, []), (27, .astore 6, 0, 0, 0, []), (29, .aload_n 2, 0, 0, 0, []), (30, .getfield 89, 1, 8, 0, []), (33, .aload 6, 0, 0, 0, []), (35, .getfield 92, 9, 7, 0, []), (38, .iaload, 0, 0, 0, []), (39, .istore 7, 0, 0, 0, []), (41, .aload 6, 0, 0, 0, []), (43, .iload 7, 0, 0, 0, []), (45, .aload 4, 0, 0, 0, []), (47, .getfield 97, 6, 1, 0, []), (50, .invokevirtual 100, 78, 2, 0, []), (53, .istore 8, 0, 0, 0, []), (55, .aload 6, 0, 0, 0, []), (57, .iload 7, 0, 0, 0, []), (59, .aload 4, 0, 0, 0, []), (61, .getfield 97, 6, 1, 0, []), (64, .invokevirtual 104, 79, 2, 0, []), (67, .istore 9, 0, 0, 0, []), (69, .iconst 0, 0, 0, 0, []), (70, .istore 10, 0, 0, 0, []), (72, .iload 10, 0, 0, 0, []), (74, .aload_n 0, 0, 0, 0, []), (75, .getfield 66, 3, 7, 0, []), (78, .if_icmp .ge 87, 84, 0, 0, []), (81, .aload 6, 0, 0, 0, []), (83, .getfield 107, 9, 8, 0, []), (86, .ifCond .ne 23, 52, 0, 0, []), (89, .aload 6, 0, 0, 0, []), (91, .aload 4, 0, 0, 0, []), (93, .getfield 111, 6, 5, 0, []), (96, .iload 10, 0, 0, 0, []), (98, .iaload, 0, 0, 0, []), (99, .invokevirtual 113, 77, 1, 0, []), (102, .ifCond .eq 7, 52, 0, 0, []), (105, .iconst 1, 0, 0, 1, []), (106, .goto 4, 53, 0, 0, []), (109, .iconst 0, 0, 0, 0, []), (110, .istore 11, 0, 0, 0, []), (112, .aload_n 0, 0, 0, 0, []), (113, .getfield 18, 3, 8, 0, []), (116, .iconst 4, 0, 0, 4, []), (117, .iload 5, 0, 0, 0, []), (119, .imul, 0, 0, 0, []), (120, .iload 10, 0, 0, 0, []), (122, .iadd, 0, 0, 0, []), (123, .iload 11, 0, 0, 0, []), (125, .ifCond .eq 32, 80, 0, 0, []), (128, .aload_n 0, 0, 0, 0, []), (129, .aload_n 2, 0, 0, 0, []), (130, .iload_n 3, 0, 0, 0, []), (131, .iload 10, 0, 0, 0, []), (133, .invokevirtual 117, 39, 2, 0, []), (136, .iload 8, 0, 0, 0, []), (138, .isub, 0, 0, 0, []), (139, .i2l, 0, 0, 0, []), (140, .aload_n 2, 0, 0, 0, []), (141, .iload_n 3, 0, 0, 0, []), (142, .iload 10, 0, 0, 0, []), (144, .invokevirtual 120, 40, 2, 0, []), (147, .iload 9, 0, 0, 0, []), (149, .isub, 0, 0, 0, []), (150, .i2l, 0, 0, 0, []), (151, .invokevirtual 123, 51, 2, 0, []), (154, .goto 4, 81, 0, 0, []), (157, .iconst (-1), 0, 0, (-1), []), (158, .iastore, 0, 0, 0, []), (159, .iinc 10 1, 0, 0, 1, []), (162, .goto (-90), 36, 0, 0, []), (165, .iinc 5 1, 0, 0, 1, []), (168, .goto (-157), 7, 0, 0, []), (171, .return_, 2, 0, 0, [])]
-- 51 WhoIsWho$Dealer.toll(JJ)I
def am_c51 : List am_E := [(0, .lload_n 1, 0, 0, 0, []), (1, .lload_n 1, 0, 0, 0, []), (2, .lmul, 0, 0, 0, []), (3, .lload_n 3, 0, 0, 0, []), (4, .lload_n 3, 0, 0, 0, []), (5, .lmul, 0, 0, 0, []), (6, .ladd, 0, 0, 0, []), (7, .lstore 5, 0, 0, 0, []), (9, .lload 5, 0, 0, 0, []), (11, .aload_n 0, 0, 0, 0, []), (12, .getfield 42, 3, 4, 0, []), (15, .lcmp, 0, 0, 0, []), (16, .ifCond .gt 9, 16, 0, 0, []), (19, .lload 5, 0, 0, 0, []), (21, .l2i, 0, 0, 0, []), (22, .goto 4, 17, 0, 0, []), (25, .iconst (-1), 0, 0, (-1), []), (26, .ireturn, 0, 0, 0, [])]
-- 52 WhoIsWho$Dealer.setLeast()V
def am_c52 : List am_E := [(0, .aload_n 0, 0, 0, 0, []), (1, .getfield 22, 3, 9, 0, []), (4, .aload_n 0, 0, 0, 0, []), (5, .getfield 66, 3, 7, 0, []), (8, .iconst 0, 0, 0, 0, []), (9, .iastore, 0, 0, 0, []), (10, .aload_n 0, 0, 0, 0, []), (11, .getfield 66, 3, 7, 0, []), (14, .iconst 1, 0, 0, 1, []), (15, .isub, 0, 0, 0, []), (16, .istore_n 1, 0, 0, 0, []), (17, .iload_n 1, 0, 0, 0, []), (18, .ifCond .lt 78, 57, 0, 0, []), (21, .aload_n 0, 0, 0, 0, []), (22, .getfield 36, 3, 2, 0, []), (25, .aload_n 0, 0, 0, 0, []), (26, .getfield 39, 3, 3, 0, []), (29, .invokestatic 127, 136, 2, 0, []), (32, .istore_n 2, 0, 0, 0, []), (33, .iconst 0, 0, 0, 0, []), (34, .istore_n 3, 0, 0, 0, []), (35, .iload_n 3, 0, 0, 0, []), (36, .aload_n 0, 0, 0, 0, []), (37, .getfield 54, 3, 6, 0, []), (40, .if_icmp .ge 34, 43, 0, 0, []), (43, .aload_n 0, 0, 0, 0, []), (44, .getfield 18, 3, 8, 0, []), (47, .iconst 4, 0, 0, 4, []), (48, .iload_n 3, 0, 0, 0, []), (49, .imul, 0, 0, 0, []), (50, .iload_n 1, 0, 0, 0, []), (51, .iadd, 0, 0, 0, []), (52, .iaload, 0, 0, 0, []), (53, .istore 4, 0, 0, 0, []), (55, .iload 4, 0, 0, 0, []), (57, .iconst (-1), 0, 0, (-1), []), (58, .if_icmp .eq 10, 41, 0, 0, []), (61, .iload_n 2, 0, 0, 0, []), (62, .iload 4, 0, 0, 0, []), (64, .invokestatic 127, 136, 2, 0, []), (67, .istore_n 2, 0, 0, 0, []), (68, .iinc 3 1, 0, 0, 1, []), (71, .goto (-36), 21, 0, 0, []), (74, .aload_n 0, 0, 0, 0, []), (75, .getfield 22, 3, 9, 0, []), (78, .iload_n 1, 0, 0, 0, []), (79, .aload_n 0, 0, 0, 0, []), (80, .getfield 22, 3, 9, 0, []), (83, .iload_n 1, 0, 0, 0, []), (84, .iconst 1, 0, 0, 1, []), (85, .iadd, 0, 0, 0, []), (86, .iaload, 0, 0, 0, []), (87, .iload_n 2, 0, 0, 0, []), (88, .iadd, 0, 0, 0, []), (89, .iastore, 0, 0, 0, []), (90, .iinc 1 (-1), 0, 0, (-1), []), (93, .goto (-76), 11, 0, 0, []), (96, .return_, 2, 0, 0, [])]
-- 53 WhoIsWho$Dealer.mayServe(III)Z
def am_c53 : List am_E := [(0, .iconst 0, 0, 0, 0, []), (1, .iload_n 3, 0, 0, 0, []), (2, .aload_n 0, 0, 0, 0, []), (3, .getfield 66, 3, 7, 0, []), (6, .iload_n 1, 0, 0, 0, []), (7, .isub, 0, 0, 0, []), (8, .isub, 0, 0, 0, []), (9, .invokestatic 132, 135, 2, 0, []), (12, .istore 4, 0, 0, 0, []), (14, .aload_n 0, 0, 0, 0, []), (15, .getfield 12, 3, 0, 0, []), (18, .iload_n 2, 0, 0, 0, []), (19, .aload_n 0, 0, 0, 0, []), (20, .getfield 22, 3, 9, 0, []), (23, .iload_n 1, 0, 0, 0, []), (24, .iaload, 0, 0, 0, []), (25, .iadd, 0, 0, 0, []), (26, .iload 4, 0, 0, 0, []), (28, .aload_n 0, 0, 0, 0, []), (29, .getfield 32, 3, 1, 0, []), (32, .imul, 0, 0, 0, []), (33, .iadd, 0, 0, 0, []), (34, .invokevirtual 135, 56, 1, 0, []), (37, .ireturn, 1, 0, 0, [])]
-- 54 WhoIsWho$Dealer.dealFrom(LWhoIsWho$Dealer;IIII)V
def am_c54 : List am_E := [(0, .iload_n 1, 0, 0, 0, []), (1, .aload_n 0, 0, 0, 0, []), (2, .getfield 66, 3, 7, 0, []), (5, .if_icmp .ge 8, 7, 0, 0, []), (8, .iload_n 1, 0, 0, 0, []), (9, .iconst 4, 0, 0, 4, []), (10, .if_icmp .lt 27, 21, 0, 0, []), (13, .aload_n 0, 0, 0, 0, []), (14, .getfield 12, 3, 0, 0, []), (17, .aload_n 0, 0, 0, 0, []), (18, .getfield 46, 3, 5, 0, []), (21, .iload_n 2, 0, 0, 0, []), (22, .iload_n 3, 0, 0, 0, []), (23, .aload_n 0, 0, 0, 0, []), (24, .getfield 32, 3, 1, 0, []), (27, .imul, 0, 0, 0, []), (28, .iadd, 0, 0, 0, []), (29, .aload_n 0, 0, 0, 0, []), (30, .getfield 25, 3, 10, 0, []), (33, .invokevirtual 138, 57, 3, 0, []), (36, .return_, 2, 0, 0, []), (37, .aload_n 0, 0, 0, 0, []), (38, .iload_n 1, 0, 0, 0, []), (39, .iload_n 2, 0, 0, 0, []), (40, .iload_n 3, 0, 0, 0, []), (41, .invokevirtual 142, 53, 3, 0, []), (44, .ifCond .ne 4, 28, 0, 0, []), (47, .return_, 2, 0, 0, []), (48, .iconst 0, 0, 0, 0, []), (49, .istore 5, 0, 0, 0, []), (51, .iload 5, 0, 0, 0, []), (53, .aload_n 0, 0, 0, 0, []), (54, .getfield 54, 3, 6, 0, []), (57, .if_icmp .ge 78, 80, 0, 0, []), (60, .aload_n 0, 0, 0, 0, []), (61, .getfield 18, 3, 8, 0, []), (64, .iconst 4, 0, 0, 4, []), (65, .iload 5, 0, 0, 0, []), (67, .imul, 0, 0, 0, []), (68, .iload_n 1, 0, 0, 0, []), (69, .iadd, 0, 0, 0, []), (70, .iaload, 0, 0, 0, []), (71, .istore 6, 0, 0, 0, []), (73, .iload 6, 0, 0, 0, []), (75, .iconst (-1), 0, 0, (-1), []), (76, .if_icmp .eq 53, 78, 0, 0, []), (79, .aload_n 0, 0, 0, 0, []), (80, .getfield 28, 3, 11, 0, []), (83, .iload 5, 0, 0, 0, []), (85, .baload, 0, 0, 0, []), (86, .ifCond .ne 43, 78, 0, 0, []), (89, .aload_n 0, 0, 0, 0, []), (90, .getfield 28, 3, 11, 0, []), (93, .iload 5, 0, 0, 0, []), (95, .iconst 1, 0, 0, 1, []), (96, .bastore, 0, 0, 0, []), (97, .aload_n 0, 0, 0, 0, []), (98, .getfield 25, 3, 10, 0, []), (101, .iload_n 1, 0, 0, 0, []), (102, .iload 5, 0, 0, 0, []), (104, .iastore, 0, 0, 0, []), (105, .aload_n 0, 0, 0, 0, []), (106, .iload_n 1, 0, 0, 0, []), (107, .iconst 1, 0, 0, 1, []), (108, .iadd, 0, 0, 0, []), (109, .iload_n 2, 0, 0, 0, []), (110, .iload 6, 0, 0, 0, []), (112, .iadd, 0, 0, 0, []), (113, .iload_n 3, 0, 0, 0, []), (114, .iconst 1, 0, 0, 1, []), (115, .isub, 0, 0, 0, []), (116, .iload 4, 0, 0, 0, []), (118, .invokestatic 81, 54, 5, 0, []), (121, .aload_n 0, 0, 0, 0, []), (122, .getfield 28, 3, 11, 0, []), (125, .iload 5, 0, 0, 0, []), (127, .iconst 0, 0, 0, 0, []), (128, .bastore, 0, 0, 0, []), (129, .iinc 5 1, 0, 0, 1, []), (132, .goto (-81), 30, 0, 0, []), (135, .aload_n 0, 0, 0, 0, []), (136, .getfield 54, 3, 6, 0, []), (139, .iload 4, 0, 0, 0, []), (141, .iadd, 0, 0, 0, []), (142, .bipush 6, 0, 0, 6, []), (144, .if_icmp .ge 29, 104, 0, 0, []), (147, .aload_n 0, 0, 0, 0, []), (148, .getfield 25, 3, 10, 0, []), (151, .iload_n 1, 0, 0, 0, []), (152, .bipush 6, 0, 0, 6, []), (154, .iastore, 0, 0, 0, []), (155, .aload_n 0, 0, 0, 0, []), (156, .iload_n 1, 0, 0, 0, []), (157, .iconst 1, 0, 0, 1, []), (158, .iadd, 0, 0, 0, []), (159, .iload_n 2, 0, 0, 0, []), (160, .aload_n 0, 0, 0, 0, []), (161, .getfield 36, 3, 2, 0, []), (164, .iadd, 0, 0, 0, []), (165, .iload_n 3, 0, 0, 0, []), (166, .iload 4, 0, 0, 0, []), (168, .iconst 1, 0, 0, 1, []), (169, .iadd, 0, 0, 0, []), (170, .invokestatic 81, 54, 5, 0, []), (173, .aload_n 0, 0, 0, 0, []), (174, .getfield 25, 3, 10, 0, []), (177, .iload_n 1, 0, 0, 0, []), (178, .bipush 7, 0, 0, 7, []), (180, .iastore, 0, 0, 0, []), (181, .aload_n 0, 0, 0, 0, []), (182, .iload_n 1, 0, 0, 0, []), (183, .iconst 1, 0, 0, 1, []), (184, .iadd, 0, 0, 0, []), (185, .iload_n 2, 0, 0, 0, []), (186, .aload_n 0, 0, 0, 0, []), (187, .getfield 39, 3, 3, 0, []), (190, .iadd, 0, 0, 0, []), (191, .iload_n 3, 0, 0, 0, []), (192, .iload 4, 0, 0, 0, []), (194, .invokestatic 81, 54, 5, 0, []), (197, .return_, 2, 0, 0, [])]
-- 55 WhoIsWho$Shortlist.open(I)V
def am_c55 : List am_E := [(0, .aload_n 0, 0, 0, 0, []), (1, .iconst 0, 0, 0, 0, []), (2, .putfield 18, 4, 0, 0, []), (5, .aload_n 0, 0, 0, 0, []), (6, .iconst 1, 0, 0, 1, []), (7, .iconst 4, 0, 0, 4, []), (8, .iload_n 1, 0, 0, 0, []), (9, .invokestatic 22, 136, 2, 0, []), (12, .invokestatic 28, 135, 2, 0, []), (15, .putfield 31, 4, 1, 0, []), (18, .return_, 2, 0, 0, [])]
-- 56 WhoIsWho$Shortlist.takes(I)Z
def am_c56 : List am_E := [(0, .aload_n 0, 0, 0, 0, []), (1, .getfield 18, 4, 0, 0, []), (4, .aload_n 0, 0, 0, 0, []), (5, .getfield 31, 4, 1, 0, []), (8, .if_icmp .lt 21, 15, 0, 0, []), (11, .iload_n 1, 0, 0, 0, []), (12, .aload_n 0, 0, 0, 0, []), (13, .getfield 11, 4, 2, 0, []), (16, .aload_n 0, 0, 0, 0, []), (17, .getfield 18, 4, 0, 0, []), (20, .iconst 1, 0, 0, 1, []), (21, .isub, 0, 0, 0, []), (22, .aaload, 0, 0, 0, []), (23, .getfield 34, 7, 1, 0, []), (26, .if_icmp .ge 7, 17, 0, 0, []), (29, .iconst 1, 0, 0, 1, []), (30, .goto 4, 18, 0, 0, []), (33, .iconst 0, 0, 0, 0, []), (34, .ireturn, 1, 0, 0, [])]
-- 57 WhoIsWho$Shortlist.offer(II[I)V
def am_c57 : List am_E := [(0, .aload_n 0, 0, 0, 0, []), (1, .iload_n 2, 0, 0, 0, []), (2, .invokevirtual 37, 56, 1, 0, []), (5, .ifCond .ne 4, 5, 0, 0, []), (8, .return_, 2, 0, 0, []), (9, .aload_n 0, 0, 0, 0, []), (10, .getfield 18, 4, 0, 0, []), (13, .aload_n 0, 0, 0, 0, []), (14, .getfield 31, 4, 1, 0, []), (17, .if_icmp .ge 10, 13, 0, 0, []), (20, .aload_n 0, 0, 0, 0, []), (21, .getfield 18, 4, 0, 0, []), (24, .goto 9, 17, 0, 0, []), (27, .aload_n 0, 0, 0, 0, []), (28, .getfield 18, 4, 0, 0, []), (31, .iconst 1, 0, 0, 1, []), (32, .isub, 0, 0, 0, []), (33, .istore 4, 0, 0, 0, []), (35, .aload_n 0, 0, 0, 0, []), (36, .getfield 11, 4, 2, 0, []), (39, .iload 4, 0, 0, 0, []), (41, .aaload, 0, 0, 0, []), (42, .astore 5, 0, 0, 0, []), (44, .iload 4, 0, 0, 0, []), (46, .ifCond .le 41, 46, 0, 0, []), (49, .aload_n 0, 0, 0, 0, []), (50, .getfield 11, 4, 2, 0, []), (53, .iload 4, 0, 0, 0, []), (55, .iconst 1, 0, 0, 1, []), (56, .isub, 0, 0, 0, []), (57, .aaload, 0, 0, 0, []), (58, .getfield 34, 7, 1, 0, []), (61, .iload_n 2, 0, 0, 0, []), (62, .if_icmp .le 25, 46, 0, 0, []), (65, .aload_n 0, 0, 0, 0, []), (66, .getfield 11, 4, 2, 0, []), (69, .iload 4, 0, 0, 0, []), (71, .aload_n 0, 0, 0, 0, []), (72, .getfield 11, 4, 2, 0, []), (75, .iload 4, 0, 0, 0, []), (77, .iconst 1, 0, 0, 1, []), (78, .isub, 0, 0, 0, []), (79, .aaload, 0, 0, 0, []), (80, .aastore, 0, 0, 0, []), (81, .iinc 4 (-1), 0, 0, (-1), []), (84, .goto (-40), 23, 0, 0, []), (87, .aload_n 0, 0, 0, 0, []), (88, .getfield 11, 4, 2, 0, []), (91, .iload 4, 0, 0, 0, []), (93, .aload 5, 0, 0, 0, []), (95, .aastore, 0, 0, 0, []), (96, .aload 5, 0, 0, 0, []), (98, .iload_n 1, 0, 0, 0, []), (99, .putfield 41, 7, 0, 0, []), (102, .aload 5, 0, 0, 0, []), (104, .iload_n 2, 0, 0, 0, []), (105, .putfield 34, 7, 1, 0, []), (108, .aload_n 3, 0, 0, 0, []), (109, .iconst 0, 0, 0, 0, []), (110, .aload 5, 0, 0, 0, []), (112, .getfield 44, 7, 2, 0, []), (115, .iconst 0, 0, 0, 0, []), (116, .iconst 4, 0, 0, 4, []), (117, .invokestatic 48, 999, 5, 0, []), (120, .aload_n 0, 0, 0, 0, []), (121, .getfield 18, 4, 0, 0, []), (124, .aload_n 0, 0, 0, 0, []), (125, .getfield 31, 4, 1, 0, []), (128, .if_icmp .ge 13, 75, 0, 0, []), (131, .aload_n 0, 0, 0, 0, []), (132, .dup, 0, 0, 0, []), (133, .getfield 18, 4, 0, 0, []), (136, .iconst 1, 0, 0, 1, []), (137, .iadd, 0, 0, 0, []), (138, .putfield 18, 4, 0, 0, []), (141, .return_, 2, 0, 0, [])]
-- 58 WhoIsWho$Level.measure(LWhoIsWho$Told;II)V
def am_c58 : List am_E := [(0, .aload_n 0, 0, 0, 0, []), (1, .iconst 0, 0, 0, 0, []), (2, .putfield 9, 5, 0, 0, []), (5, .aload_n 0, 0, 0, 0, []), (6, .iconst 0, 0, 0, 0, []), (7, .putfield 15, 5, 1, 0, []), (10, .aload_n 0, 0, 0, 0, []), (11, .iconst 0, 0, 0, 0, []), (12, .putfield 18, 5, 2, 0, []), (15, .iconst 0, 0, 0, 0, []), (16, .istore 4, 0, 0, 0, []), (18, .iload 4, 0, 0, 0, []), (20, .aload_n 1, 0, 0, 0, []), (21, .getfield 21, 1, 2, 0, []), (24, .if_icmp .ge 84, 52, 0, 0, []), (27, .iconst 0, 0, 0, 0, []), (28, .istore 5, 0, 0, 0, []), (30, .iload 5, 0, 0, 0, []), (32, .aload_n 1, 0, 0, 0, []), (33, .getfield 21, 1, 2, 0, []), (36, .if_icmp .ge 66, 50, 0, 0, []), (39, .aload_n 1, 0, 0, 0, []), (40, .getfield 26, 1, 5, 0, []), (43, .iload 4, 0, 0, 0, []), (45, .aaload, 0, 0, 0, []), (46, .astore 6, 0, 0, 0, []), (48, .aload_n 1, 0, 0, 0, []), (49, .getfield 26, 1, 5, 0, []), (52, .iload 5, 0, 0, 0, []), (54, .aaload, 0, 0, 0, []), (55, .astore 7, 0, 0, 0, []), (57, .aload 6, 0, 0, 0, []), (59, .getfield 30, 6, 0, 0, []), (62, .iload_n 2, 0, 0, 0, []), (63, .if_icmp .ne 33, 48, 0, 0, []), (66, .aload 7, 0, 0, 0, []), (68, .getfield 30, 6, 0, 0, []), (71, .iload_n 3, 0, 0, 0, []), (72, .if_icmp .ne 24, 48, 0, 0, []), (75, .aload 6, 0, 0, 0, []), (77, .getfield 35, 6, 1, 0, []), (80, .aload 7, 0, 0, 0, []), (82, .getfield 35, 6, 1, 0, []), (85, .if_icmp .ne 11, 48, 0, 0, []), (88, .aload_n 0, 0, 0, 0, []), (89, .aload 6, 0, 0, 0, []), (91, .aload 7, 0, 0, 0, []), (93, .invokevirtual 38, 59, 2, 0, []), (96, .iinc 5 1, 0, 0, 1, []), (99, .goto (-69), 17, 0, 0, []), (102, .iinc 4 1, 0, 0, 1, []), (105, .goto (-87), 11, 0, 0, []), (108, .return_, 2, 0, 0, [])]
-- 59 WhoIsWho$Level.addPairs(LWhoIsWho$Scan;LWhoIsWho$Scan;)V
def am_c59 : List am_E := [(0, .iconst 0, 0, 0, 0, []), (1, .istore_n 3, 0, 0, 0, []), (2, .iload_n 3, 0, 0, 0, []), (3, .aload_n 1, 0, 0, 0, []), (4, .getfield 42, 6, 2, 0, []), (7, .if_icmp .ge 108, 64, 0, 0, []), (10, .iconst 0, 0, 0, 0, []), (11, .istore 4, 0, 0, 0, []), (13, .iload 4, 0, 0, 0, []), (15, .aload_n 2, 0, 0, 0, []), (16, .getfield 42, 6, 2, 0, []), (19, .if_icmp .ge 90, 62, 0, 0, []), (22, .aload_n 1, 0, 0, 0, []), (23, .getfield 45, 6, 5, 0, []), (26, .iload_n 3, 0, 0, 0, []), (27, .iaload, 0, 0, 0, []), (28, .ifCond .eq 75, 60, 0, 0, []), (31, .aload_n 1, 0, 0, 0, []), (32, .getfield 45, 6, 5, 0, []), (35, .iload_n 3, 0, 0, 0, []), (36, .iaload, 0, 0, 0, []), (37, .aload_n 2, 0, 0, 0, []), (38, .getfield 45, 6, 5, 0, []), (41, .iload 4, 0, 0, 0, []), (43, .iaload, 0, 0, 0, []), (44, .if_icmp .ne 59, 60, 0, 0, []), (47, .aload_n 0, 0, 0, 0, []), (48, .dup, 0, 0, 0, []), (49, .getfield 9, 5, 0, 0, []), (52, .iconst 1, 0, 0, 1, []), (53, .iadd, 0, 0, 0, []), (54, .putfield 9, 5, 0, 0, []), (57, .aload_n 0, 0, 0, 0, []), (58, .dup, 0, 0, 0, []), (59, .getfield 15, 5, 1, 0, []), (62, .aload_n 2, 0, 0, 0, []), (63, .getfield 49, 6, 3, 0, []), (66, .iload 4, 0, 0, 0, []), (68, .iaload, 0, 0, 0, []), (69, .aload_n 1, 0, 0, 0, []), (70, .getfield 49, 6, 3, 0, []), (73, .iload_n 3, 0, 0, 0, []), (74, .iaload, 0, 0, 0, []), (75, .isub, 0, 0, 0, []), (76, .iadd, 0, 0, 0, []), (77, .putfield 15, 5, 1, 0, []), (80, .aload_n 0, 0, 0, 0, []), (81, .dup, 0, 0, 0, []), (82, .getfield 18, 5, 2, 0, []), (85, .aload_n 2, 0, 0, 0, []), (86, .getfield 52, 6, 4, 0, []), (89, .iload 4, 0, 0, 0, []), (91, .iaload, 0, 0, 0, []), (92, .aload_n 1, 0, 0, 0, []), (93, .getfield 52, 6, 4, 0, []), (96, .iload_n 3, 0, 0, 0, []), (97, .iaload, 0, 0, 0, []), (98, .isub, 0, 0, 0, []), (99, .iadd, 0, 0, 0, []), (100, .putfield 18, 5, 2, 0, []), (103, .iinc 4 1, 0, 0, 1, []), (106, .goto (-93), 8, 0, 0, []), (109, .iinc 3 1, 0, 0, 1, []), (112, .goto (-110), 2, 0, 0, []), (115, .return_, 2, 0, 0, [])]
-- 60 WhoIsWho$Level.meanX()I
def am_c60 : List am_E := [(0, .aload_n 0, 0, 0, 0, []), (1, .getfield 9, 5, 0, 0, []), (4, .ifCond .le 17, 9, 0, 0, []), (7, .aload_n 0, 0, 0, 0, []), (8, .getfield 15, 5, 1, 0, []), (11, .aload_n 0, 0, 0, 0, []), (12, .getfield 9, 5, 0, 0, []), (15, .invokestatic 55, 134, 2, 0, []), (18, .goto 5, 10, 0, 0, []), (21, .ldc 61, 0, 0, (-2147483648), []), (23, .ireturn, 0, 0, 0, [])]
-- 61 WhoIsWho$Level.meanY()I
def am_c61 : List am_E := [(0, .aload_n 0, 0, 0, 0, []), (1, .getfield 9, 5, 0, 0, []), (4, .ifCond .le 17, 9, 0, 0, []), (7, .aload_n 0, 0, 0, 0, []), (8, .getfield 18, 5, 2, 0, []), (11, .aload_n 0, 0, 0, 0, []), (12, .getfield 9, 5, 0, 0, []), (15, .invokestatic 55, 134, 2, 0, []), (18, .goto 5, 10, 0, 0, []), (21, .ldc 61, 0, 0, (-2147483648), []), (23, .ireturn, 0, 0, 0, [])]
-- 62 WhoIsWho$Scan.add(III)V
def am_c62 : List am_E := [(0, .aload_n 0, 0, 0, 0, []), (1, .getfield 21, 6, 2, 0, []), (4, .iconst 4, 0, 0, 4, []), (5, .if_icmp .ge 43, 28, 0, 0, []), (8, .aload_n 0, 0, 0, 0, []), (9, .getfield 9, 6, 3, 0, []), (12, .aload_n 0, 0, 0, 0, []), (13, .getfield 21, 6, 2, 0, []), (16, .iload_n 1, 0, 0, 0, []), (17, .iastore, 0, 0, 0, []), (18, .aload_n 0, 0, 0, 0, []), (19, .getfield 15, 6, 4, 0, []), (22, .aload_n 0, 0, 0, 0, []), (23, .getfield 21, 6, 2, 0, []), (26, .iload_n 2, 0, 0, 0, []), (27, .iastore, 0, 0, 0, []), (28, .aload_n 0, 0, 0, 0, []), (29, .getfield 18, 6, 5, 0, []), (32, .aload_n 0, 0, 0, 0, []), (33, .getfield 21, 6, 2, 0, []), (36, .iload_n 3, 0, 0, 0, []), (37, .iastore, 0, 0, 0, []), (38, .aload_n 0, 0, 0, 0, []), (39, .dup, 0, 0, 0, []), (40, .getfield 21, 6, 2, 0, []), (43, .iconst 1, 0, 0, 1, []), (44, .iadd, 0, 0, 0, []), (45, .putfield 21, 6, 2, 0, []), (48, .return_, 2, 0, 0, [])]
-- 63 WhoIsWho$Join.dotPickedFor(II)I
def am_c63 : List am_E := [(0, .iconst 0, 0, 0, 0, []), (1, .istore_n 3, 0, 0, 0, []), (2, .iload_n 3, 0, 0, 0, []), (3, .iload_n 2, 0, 0, 0, []), (4, .if_icmp .ge 21, 15, 0, 0, []), (7, .aload_n 0, 0, 0, 0, []), (8, .getfield 9, 7, 2, 0, []), (11, .iload_n 3, 0, 0, 0, []), (12, .iaload, 0, 0, 0, []), (13, .iload_n 1, 0, 0, 0, []), (14, .if_icmp .ne 5, 13, 0, 0, []), (17, .iload_n 3, 0, 0, 0, []), (18, .ireturn, 0, 0, 0, []), (19, .iinc 3 1, 0, 0, 1, []), (22, .goto (-20), 2, 0, 0, []), (25, .iconst (-1), 0, 0, (-1), []), (26, .ireturn, 0, 0, 0, [])]
-- 64 WhoIsWho$World.clear()V
def am_c64 : List am_E := [(0, .aload_n 0, 0, 0, 0, []), (1, .iconst 0, 0, 0, 0, []), (2, .putfield 22, 8, 0, 0, []), (5, .aload_n 0, 0, 0, 0, []), (6, .iconst 0, 0, 0, 0, []), (7, .putfield 26, 8, 1, 0, []), (10, .return_, 2, 0, 0, [])]
-- 65 WhoIsWho$World.copyFrom(LWhoIsWho$World;)V
def am_c65 : List am_E := [(0, .aload_n 0, 0, 0, 0, []), (1, .aload_n 1, 0, 0, 0, []), (2, .getfield 22, 8, 0, 0, []), (5, .putfield 22, 8, 0, 0, []), (8, .aload_n 0, 0, 0, 0, []), (9, .aload_n 1, 0, 0, 0, []), (10, .getfield 26, 8, 1, 0, []), (13, .putfield 26, 8, 1, 0, []), (16, .iconst 0, 0, 0, 0, []), (17, .istore_n 2, 0, 0, 0, []), (18, .iload_n 2, 0, 0, 0, []), (19, .aload_n 0, 0, 0, 0, []), (20, .getfield 26, 8, 1, 0, []), (23, .if_icmp .ge 24, 25, 0, 0, []), (26, .aload_n 0, 0, 0, 0, []), (27, .getfield 11, 8, 2, 0, []), (30, .iload_n 2, 0, 0, 0, []), (31, .aaload, 0, 0, 0, []), (32, .aload_n 1, 0, 0, 0, []), (33, .getfield 11, 8, 2, 0, []), (36, .iload_n 2, 0, 0, 0, []), (37, .aaload, 0, 0, 0, []), (38, .invokevirtual 29, 72, 1, 0, []), (41, .iinc 2 1, 0, 0, 1, []), (44, .goto (-26), 10, 0, 0, []), (47, .aload_n 1, 0, 0, 0, []), (48, .getfield 17, 8, 3, 0, []), (51, .iconst 0, 0, 0, 0, []), (52, .aload_n 0, 0, 0, 0, []), (53, .getfield 17, 8, 3, 0, []), (56, .iconst 0, 0, 0, 0, []), (57, .aload_n 0, 0, 0, 0, []), (58, .getfield 17, 8, 3, 0, []), (61, .arraylength, 0, 0, 0, []), (62, .invokestatic 33, 999, 5, 0, []), (65, .return_, 2, 0, 0, [])]
-- 66 WhoIsWho$World.accountOf(II)I
def am_c66 : List am_E := [(0, .aload_n 0, 0, 0, 0, []), (1, .getfield 17, 8, 3, 0, []), (4, .iconst 4, 0, 0, 4, []), (5, .iload_n 1, 0, 0, 0, []), (6, .imul, 0, 0, 0, []), (7, .iload_n 2, 0, 0, 0, []), (8, .iadd, 0, 0, 0, []), (9, .iaload, 0, 0, 0, []), (10, .ireturn, 0, 0, 0, [])]
-- 67 WhoIsWho$World.addTrack(IIII)I
def am_c67 : List am_E := [(0, .aload_n 0, 0, 0, 0, []), (1, .getfield 26, 8, 1, 0, []), (4, .bipush 6, 0, 0, 6, []), (6, .if_icmp .lt 5, 6, 0, 0, []), (9, .iconst (-1), 0, 0, (-1), []), (10, .ireturn, 0, 0, 0, []), (11, .aload_n 0, 0, 0, 0, []), (12, .getfield 11, 8, 2, 0, []), (15, .aload_n 0, 0, 0, 0, []), (16, .getfield 26, 8, 1, 0, []), (19, .aaload, 0, 0, 0, []), (20, .iload_n 1, 0, 0, 0, []), (21, .iload_n 2, 0, 0, 0, []), (22, .iload_n 3, 0, 0, 0, []), (23, .iload 4, 0, 0, 0, []), (25, .invokevirtual 39, 73, 4, 0, []), (28, .aload_n 0, 0, 0, 0, []), (29, .dup, 0, 0, 0, []), (30, .getfield 26, 8, 1, 0, []), (33, .iconst 1, 0, 0, 1, []), (34, .iadd, 0, 0, 0, []), (35, .putfield 26, 8, 1, 0, []), (38, .aload_n 0, 0, 0, 0, []), (39, .getfield 26, 8, 1, 0, []), (42, .iconst 1, 0, 0, 1, []), (43, .isub, 0, 0, 0, []), (44, .ireturn, 0, 0, 0, [])]
-- 68 WhoIsWho$World.countLookedFor()I
def am_c68 : List am_E := [(0, .iconst 0, 0, 0, 0, []), (1, .istore_n 1, 0, 0, 0, []), (2, .iconst 0, 0, 0, 0, []), (3, .istore_n 2, 0, 0, 0, []), (4, .iload_n 2, 0, 0, 0, []), (5, .aload_n 0, 0, 0, 0, []), (6, .getfield 26, 8, 1, 0, []), (9, .if_icmp .ge 29, 22, 0, 0, []), (12, .iload_n 1, 0, 0, 0, []), (13, .aload_n 0, 0, 0, 0, []), (14, .getfield 11, 8, 2, 0, []), (17, .iload_n 2, 0, 0, 0, []), (18, .aaload, 0, 0, 0, []), (19, .getfield 43, 9, 8, 0, []), (22, .ifCond .eq 7, 17, 0, 0, []), (25, .iconst 0, 0, 0, 0, []), (26, .goto 4, 18, 0, 0, []), (29, .iconst 1, 0, 0, 1, []), (30, .iadd, 0, 0, 0, []), (31, .istore_n 1, 0, 0, 0, []), (32, .iinc 2 1, 0, 0, 1, []), (35, .goto (-31), 4, 0, 0, []), (38, .iload_n 1, 0, 0, 0, []), (39, .ireturn, 0, 0, 0, [])]
-- 69 WhoIsWho$World.countAlive()I
def am_c69 : List am_E := [(0, .iconst 0, 0, 0, 0, []), (1, .istore_n 1, 0, 0, 0, []), (2, .iconst 0, 0, 0, 0, []), (3, .istore_n 2, 0, 0, 0, []), (4, .iload_n 2, 0, 0, 0, []), (5, .aload_n 0, 0, 0, 0, []), (6, .getfield 26, 8, 1, 0, []), (9, .if_icmp .ge 41, 28, 0, 0, []), (12, .iload_n 1, 0, 0, 0, []), (13, .aload_n 0, 0, 0, 0, []), (14, .getfield 11, 8, 2, 0, []), (17, .iload_n 2, 0, 0, 0, []), (18, .aaload, 0, 0, 0, []), (19, .invokevirtual 47, 76, 0, 0, []), (22, .ifCond .eq 19, 23, 0, 0, []), (25, .aload_n 0, 0, 0, 0, []), (26, .getfield 11, 8, 2, 0, []), (29, .iload_n 2, 0, 0, 0, []), (30, .aaload, 0, 0, 0, []), (31, .getfield 43, 9, 8, 0, []), (34, .ifCond .ne 7, 23, 0, 0, []), (37, .iconst 1, 0, 0, 1, []), (38, .goto 4, 24, 0, 0, []), (41, .iconst 0, 0, 0, 0, []), (42, .iadd, 0, 0, 0, []), (43, .istore_n 1, 0, 0, 0, []), (44, .iinc 2 1, 0, 0, 1, []), (47, .goto (-43), 4, 0, 0, []), (50, .iload_n 1, 0, 0, 0, []), (51, .ireturn, 0, 0, 0, [])]
-- 70 WhoIsWho$World.hasMarked(II)Z
def am_c70 : List am_E := [(0, .iload_n 1, 0, 0, 0, []), (1, .aload_n 0, 0, 0, 0, []), (2, .getfield 26, 8, 1, 0, []), (5, .if_icmp .ge 20, 13, 0, 0, []), (8, .aload_n 0, 0, 0, 0, []), (9, .getfield 11, 8, 2, 0, []), (12, .iload_n 1, 0, 0, 0, []), (13, .aaload, 0, 0, 0, []), (14, .getfield 51, 9, 7, 0, []), (17, .iload_n 2, 0, 0, 0, []), (18, .if_icmp .ne 7, 13, 0, 0, []), (21, .iconst 1, 0, 0, 1, []), (22, .goto 4, 14, 0, 0, []), (25, .iconst 0, 0, 0, 0, []), (26, .ireturn, 1, 0, 0, [])]
-- 71 WhoIsWho$World.apply(LWhoIsWho$Join;LWhoIsWho$Told;I)V
def am_c71 : List am_E := [(0, .aload_n 2, 0, 0, 0, []), (1, .getfield 54, 1, 5, 0, []), (4, .iload_n 3, 0, 0, 0, []), (5, .aaload, 0, 0, 0, []), (6, .astore 4, 0, 0, 0, []), (8, .aload_n 0, 0, 0, 0, []), (9, .getfield 26, 8, 1, 0, []), (12, .istore 5, 0, 0, 0, []), (14, .iconst 0, 0, 0, 0, []), (15, .istore 6, 0, 0, 0, []), (17, .iload 6, 0, 0, 0, []), (19, .iload 5, 0, 0, 0, []), (21, .if_icmp .ge 83, 52, 0, 0, []), (24, .aload_n 1, 0, 0, 0, []), (25, .iload 6, 0, 0, 0, []), (27, .aload 4, 0, 0, 0, []), (29, .getfield 60, 6, 2, 0, []), (32, .invokevirtual 65, 63, 2, 0, []), (35, .istore 7, 0, 0, 0, []), (37, .iload 7, 0, 0, 0, []), (39, .ifCond .lt 43, 41, 0, 0, []), (42, .aload_n 0, 0, 0, 0, []), (43, .getfield 11, 8, 2, 0, []), (46, .iload 6, 0, 0, 0, []), (48, .aaload, 0, 0, 0, []), (49, .aload_n 2, 0, 0, 0, []), (50, .iload_n 3, 0, 0, 0, []), (51, .iload 7, 0, 0, 0, []), (53, .invokevirtual 71, 39, 2, 0, []), (56, .aload_n 2, 0, 0, 0, []), (57, .iload_n 3, 0, 0, 0, []), (58, .iload 7, 0, 0, 0, []), (60, .invokevirtual 74, 40, 2, 0, []), (63, .aload 4, 0, 0, 0, []), (65, .getfield 77, 6, 1, 0, []), (68, .aload 4, 0, 0, 0, []), (70, .getfield 80, 6, 5, 0, []), (73, .iload 7, 0, 0, 0, []), (75, .iaload, 0, 0, 0, []), (76, .invokevirtual 82, 74, 4, 0, []), (79, .goto 19, 50, 0, 0, []), (82, .aload_n 0, 0, 0, 0, []), (83, .getfield 11, 8, 2, 0, []), (86, .iload 6, 0, 0, 0, []), (88, .aaload, 0, 0, 0, []), (89, .aload_n 2, 0, 0, 0, []), (90, .getfield 85, 1, 7, 0, []), (93, .iconst 4, 0, 0, 4, []), (94, .iaload, 0, 0, 0, []), (95, .invokevirtual 88, 75, 1, 0, []), (98, .iinc 6 1, 0, 0, 1, []), (101, .goto (-84), 10, 0, 0, []), (104, .iconst 0, 0, 0, 0, []), (105, .istore 6, 0, 0, 0, []), (107, .iload 6, 0, 0, 0, []), (109, .aload 4, 0, 0, 0, []), (111, .getfield 60, 6, 2, 0, []), (114, .if_icmp .ge 88, 102, 0, 0, []), (117, .aload_n 1, 0, 0, 0, []), (118, .getfield 92, 7, 2, 0, []), (121, .iload 6, 0, 0, 0, []), (123, .iaload, 0, 0, 0, []), (124, .istore 7, 0, 0, 0, []), (126, .iload 7, 0, 0, 0, []), (128, .istore 8, 0, 0, 0, []), (130, .iload 7, 0, 0, 0, []), (132, .bipush 6, 0, 0, 6, []), (134, .if_icmp .ne 39, 86, 0, 0, []), (137, .aload_n 0, 0, 0, 0, []), (138, .aload_n 2, 0, 0, 0, []), (139, .iload_n 3, 0, 0, 0, []), (140, .iload 6, 0, 0, 0, []), (142, .invokevirtual 71, 39, 2, 0, []), (145, .aload_n 2, 0, 0, 0, []), (146, .iload_n 3, 0, 0, 0, []), (147, .iload 6, 0, 0, 0, []), (149, .invokevirtual 74, 40, 2, 0, []), (152, .aload 4, 0, 0, 0, []), (154, .getfield 77, 6, 1, 0, []), (157, .aload 4, 0, 0, 0, []), (159, .getfield 80, 6, 5, 0, []), (162, .iload 6, 0, 0, 0, []), (164, .iaload, 0, 0, 0, []), (165, .invokevirtual 95, 67, 4, 0, []), (168, .istore 8, 0, 0, 0, []), (170, .goto 13, 91, 0, 0, []), (173, .iload 7, 0, 0, 0, []), (175, .bipush 7, 0, 0, 7, []), (177, .if_icmp .ne 6, 91, 0, 0, []), (180, .iconst (-1), 0, 0, (-1), []), (181, .istore 8, 0, 0, 0, []), (183, .aload_n 0, 0, 0, 0, []), (184, .getfield 17, 8, 3, 0, []), (187, .iconst 4, 0, 0, 4, []), (188, .iload_n 3, 0, 0, 0, []), (189, .imul, 0, 0, 0, []), (190, .iload 6, 0, 0, 0, []), (192, .iadd, 0, 0, 0, []), (193, .iload 8, 0, 0, 0, []), (195, .iastore, 0, 0, 0, []), (196, .iinc 6 1, 0, 0, 1, []), (199, .goto (-92), 54, 0, 0, []), (202, .aload_n 0, 0, 0, 0, []), (203, .aload_n 1, 0, 0, 0, []), (204, .getfield 99, 7, 1, 0, []), (207, .putfield 22, 8, 0, 0, []), (210, .return_, 2, 0, 0, [])]
-- 72 WhoIsWho$Track.copyFrom(LWhoIsWho$Track;)V
def am_c72 : List am_E := [(0, .aload_n 0, 0, 0, 0, []), (1, .aload_n 1, 0, 0, 0, []), (2, .getfield 9, 9, 0, 0, []), (5, .putfield 9, 9, 0, 0, []), (8, .aload_n 0, 0, 0, 0, []), (9, .aload_n 1, 0, 0, 0, []), (10, .getfield 15, 9, 1, 0, []), (13, .putfield 15, 9, 1, 0, []), (16, .aload_n 0, 0, 0, 0, []), (17, .aload_n 1, 0, 0, 0, []), (18, .getfield 18, 9, 2, 0, []), (21, .putfield 18, 9, 2, 0, []), (24, .aload_n 0, 0, 0, 0, []), (25, .aload_n 1, 0, 0, 0, []), (26, .getfield 21, 9, 3, 0, []), (29, .putfield 21, 9, 3, 0, []), (32, .aload_n 0, 0, 0, 0, []), (33, .aload_n 1, 0, 0, 0, []), (34, .getfield 24, 9, 4, 0, []), (37, .putfield 24, 9, 4, 0, []), (40, .aload_n 0, 0, 0, 0, []), (41, .aload_n 1, 0, 0, 0, []), (42, .getfield 27, 9, 5, 0, []), (45, .putfield 27, 9, 5, 0, []), (48, .aload_n 0, 0, 0, 0, []), (49, .aload_n 1, 0, 0, 0, []), (50, .getfield 30, 9, 6, 0, []), (53, .putfield 30, 9, 6, 0, []), (56, .aload_n 0, 0, 0, 0, []), (57, .aload_n 1, 0, 0, 0, []), (58, .getfield 33, 9, 7, 0, []), (61, .putfield 33, 9, 7, 0, []), (64, .aload_n 0, 0, 0, 0, []), (65, .aload_n 1, 0, 0, 0, []), (66, .getfield 36, 9, 8, 0, []), (69, .putfield 36, 9, 8, 0, []), (72, .return_, 2, 0, 0, [])]
-- 73 WhoIsWho$Track.begin(IIII)V
def am_c73 : List am_E := [(0, .aload_n 0, 0, 0, 0, []), (1, .iload_n 1, 0, 0, 0, []), (2, .putfield 9, 9, 0, 0, []), (5, .aload_n 0, 0, 0, 0, []), (6, .iload_n 2, 0, 0, 0, []), (7, .putfield 15, 9, 1, 0, []), (10, .aload_n 0, 0, 0, 0, []), (11, .iconst 0, 0, 0, 0, []), (12, .putfield 18, 9, 2, 0, []), (15, .aload_n 0, 0, 0, 0, []), (16, .iconst 0, 0, 0, 0, []), (17, .putfield 21, 9, 3, 0, []), (20, .aload_n 0, 0, 0, 0, []), (21, .iload_n 3, 0, 0, 0, []), (22, .putfield 24, 9, 4, 0, []), (25, .aload_n 0, 0, 0, 0, []), (26, .iconst 1, 0, 0, 1, []), (27, .putfield 27, 9, 5, 0, []), (30, .aload_n 0, 0, 0, 0, []), (31, .iconst 0, 0, 0, 0, []), (32, .putfield 30, 9, 6, 0, []), (35, .aload_n 0, 0, 0, 0, []), (36, .iload 4, 0, 0, 0, []), (38, .putfield 33, 9, 7, 0, []), (41, .aload_n 0, 0, 0, 0, []), (42, .iconst 0, 0, 0, 0, []), (43, .putfield 36, 9, 8, 0, []), (46, .return_, 2, 0, 0, [])]
-- 74 WhoIsWho$Track.hit(IIII)V
def am_c74 : List am_E := [(0, .iload_n 3, 0, 0, 0, []), (1, .aload_n 0, 0, 0, 0, []), (2, .getfield 24, 9, 4, 0, []), (5, .isub, 0, 0, 0, []), (6, .istore 5, 0, 0, 0, []), (8, .iload 5, 0, 0, 0, []), (10, .ifCond .le 33, 23, 0, 0, []), (13, .aload_n 0, 0, 0, 0, []), (14, .iload_n 1, 0, 0, 0, []), (15, .aload_n 0, 0, 0, 0, []), (16, .getfield 9, 9, 0, 0, []), (19, .isub, 0, 0, 0, []), (20, .iload 5, 0, 0, 0, []), (22, .invokestatic 40, 134, 2, 0, []), (25, .putfield 18, 9, 2, 0, []), (28, .aload_n 0, 0, 0, 0, []), (29, .iload_n 2, 0, 0, 0, []), (30, .aload_n 0, 0, 0, 0, []), (31, .getfield 15, 9, 1, 0, []), (34, .isub, 0, 0, 0, []), (35, .iload 5, 0, 0, 0, []), (37, .invokestatic 40, 134, 2, 0, []), (40, .putfield 21, 9, 3, 0, []), (43, .aload_n 0, 0, 0, 0, []), (44, .iload_n 1, 0, 0, 0, []), (45, .putfield 9, 9, 0, 0, []), (48, .aload_n 0, 0, 0, 0, []), (49, .iload_n 2, 0, 0, 0, []), (50, .putfield 15, 9, 1, 0, []), (53, .aload_n 0, 0, 0, 0, []), (54, .iload_n 3, 0, 0, 0, []), (55, .putfield 24, 9, 4, 0, []), (58, .aload_n 0, 0, 0, 0, []), (59, .dup, 0, 0, 0, []), (60, .getfield 27, 9, 5, 0, []), (63, .iconst 1, 0, 0, 1, []), (64, .iadd, 0, 0, 0, []), (65, .putfield 27, 9, 5, 0, []), (68, .aload_n 0, 0, 0, 0, []), (69, .iconst 0, 0, 0, 0, []), (70, .putfield 30, 9, 6, 0, []), (73, .aload_n 0, 0, 0, 0, []), (74, .getfield 33, 9, 7, 0, []), (77, .ifCond .ne 9, 47, 0, 0, []), (80, .aload_n 0, 0, 0, 0, []), (81, .iload 4, 0, 0, 0, []), (83, .putfield 33, 9, 7, 0, []), (86, .return_, 2, 0, 0, [])]
-- 75 WhoIsWho$Track.miss(I)V
def am_c75 : List am_E := [(0, .aload_n 0, 0, 0, 0, []), (1, .getfield 36, 9, 8, 0, []), (4, .ifCond .ne 30, 18, 0, 0, []), (7, .aload_n 0, 0, 0, 0, []), (8, .dup, 0, 0, 0, []), (9, .getfield 30, 9, 6, 0, []), (12, .iconst 1, 0, 0, 1, []), (13, .iadd, 0, 0, 0, []), (14, .putfield 30, 9, 6, 0, []), (17, .aload_n 0, 0, 0, 0, []), (18, .aload_n 0, 0, 0, 0, []), (19, .getfield 30, 9, 6, 0, []), (22, .iload_n 1, 0, 0, 0, []), (23, .if_icmp .lt 7, 16, 0, 0, []), (26, .iconst 1, 0, 0, 1, []), (27, .goto 4, 17, 0, 0, []), (30, .iconst 0, 0, 0, 0, []), (31, .putfield 36, 9, 8, 0, []), (34, .return_, 2, 0, 0, [])]
-- 76 WhoIsWho$Track.isConfirmed()Z
def am_c76 : List am_E := [(0, .aload_n 0, 0, 0, 0, []), (1, .getfield 27, 9, 5, 0, []), (4, .iconst 2, 0, 0, 2, []), (5, .if_icmp .lt 7, 6, 0, 0, []), (8, .iconst 1, 0, 0, 1, []), (9, .goto 4, 7, 0, 0, []), (12, .iconst 0, 0, 0, 0, []), (13, .ireturn, 1, 0, 0, [])]
-- 77 WhoIsWho$Track.mayBear(I)Z
def am_c77 : List am_E := [(0, .aload_n 0, 0, 0, 0, []), (1, .getfield 33, 9, 7, 0, []), (4, .ifCond .eq 15, 9, 0, 0, []), (7, .iload_n 1, 0, 0, 0, []), (8, .ifCond .eq 11, 9, 0, 0, []), (11, .aload_n 0, 0, 0, 0, []), (12, .getfield 33, 9, 7, 0, []), (15, .iload_n 1, 0, 0, 0, []), (16, .if_icmp .ne 7, 11, 0, 0, []), (19, .iconst 1, 0, 0, 1, []), (20, .goto 4, 12, 0, 0, []), (23, .iconst 0, 0, 0, 0, []), (24, .ireturn, 1, 0, 0, [])]
-- 78 WhoIsWho$Track.foretoldX(II)I
def am_c78 : List am_E := [(0, .aload_n 0, 0, 0, 0, []), (1, .getfield 9, 9, 0, 0, []), (4, .aload_n 0, 0, 0, 0, []), (5, .iload_n 1, 0, 0, 0, []), (6, .iload_n 2, 0, 0, 0, []), (7, .invokevirtual 46, 80, 2, 0, []), (10, .aload_n 0, 0, 0, 0, []), (11, .getfield 18, 9, 2, 0, []), (14, .imul, 0, 0, 0, []), (15, .iadd, 0, 0, 0, []), (16, .ireturn, 0, 0, 0, [])]
-- 79 WhoIsWho$Track.foretoldY(II)I
def am_c79 : List am_E := [(0, .aload_n 0, 0, 0, 0, []), (1, .getfield 15, 9, 1, 0, []), (4, .aload_n 0, 0, 0, 0, []), (5, .iload_n 1, 0, 0, 0, []), (6, .iload_n 2, 0, 0, 0, []), (7, .invokevirtual 46, 80, 2, 0, []), (10, .aload_n 0, 0, 0, 0, []), (11, .getfield 21, 9, 3, 0, []), (14, .imul, 0, 0, 0, []), (15, .iadd, 0, 0, 0, []), (16, .ireturn, 0, 0, 0, [])]
-- 80 WhoIsWho$Track.ahead(II)I
def am_c80 : List am_E := [(0, .iload_n 1, 0, 0, 0, []), (1, .iconst 1, 0, 0, 1, []), (2, .if_icmp .ne 5, 5, 0, 0, []), (5, .iconst 0, 0, 0, 0, []), (6, .ireturn, 0, 0, 0, []), (7, .iload_n 1, 0, 0, 0, []), (8, .iconst 2, 0, 0, 2, []), (9, .if_icmp .ne 12, 13, 0, 0, []), (12, .aload_n 0, 0, 0, 0, []), (13, .getfield 24, 9, 4, 0, []), (16, .iload_n 2, 0, 0, 0, []), (17, .isub, 0, 0, 0, []), (18, .goto 9, 17, 0, 0, []), (21, .iload_n 2, 0, 0, 0, []), (22, .aload_n 0, 0, 0, 0, []), (23, .getfield 24, 9, 4, 0, []), (26, .isub, 0, 0, 0, []), (27, .ireturn, 0, 0, 0, [])]
-- 81 WhoIsWho$Track.read(I)I
def am_c81 : List am_E := [(0, .iload_n 1, 0, 0, 0, []), (1, .tableswitch 121 0 9 #[55, 60, 65, 70, 75, 80, 85, 90, 95, 108], 40, 0, 0, [2, 5, 8, 11, 14, 17, 20, 23, 26, 33]), (56, .aload_n 0, 0, 0, 0, []), (57, .getfield 9, 9, 0, 0, []), (60, .ireturn, 0, 0, 0, []), (61, .aload_n 0, 0, 0, 0, []), (62, .getfield 15, 9, 1, 0, []), (65, .ireturn, 0, 0, 0, []), (66, .aload_n 0, 0, 0, 0, []), (67, .getfield 18, 9, 2, 0, []), (70, .ireturn, 0, 0, 0, []), (71, .aload_n 0, 0, 0, 0, []), (72, .getfield 21, 9, 3, 0, []), (75, .ireturn, 0, 0, 0, []), (76, .aload_n 0, 0, 0, 0, []), (77, .getfield 24, 9, 4, 0, []), (80, .ireturn, 0, 0, 0, []), (81, .aload_n 0, 0, 0, 0, []), (82, .getfield 27, 9, 5, 0, []), (85, .ireturn, 0, 0, 0, []), (86, .aload_n 0, 0, 0, 0, []), (87, .getfield 30, 9, 6, 0, []), (90, .ireturn, 0, 0, 0, []), (91, .aload_n 0, 0, 0, 0, []), (92, .getfield 33, 9, 7, 0, []), (95, .ireturn, 0, 0, 0, []), (96, .aload_n 0, 0, 0, 0, []), (97, .getfield 36, 9, 8, 0, []), (100, .ifCond .eq 7, 31, 0, 0, []), (103, .iconst 1, 0, 0, 1, []), (104, .goto 4, 32, 0, 0, []), (107, .iconst 0, 0, 0, 0, []), (108, .ireturn, 0, 0, 0, []), (109, .aload_n 0, 0, 0, 0, []), (110, .invokevirtual 49, 76, 0, 0, []), (113, .ifCond .eq 7, 38, 0, 0, []), (116, .iconst 1, 0, 0, 1, []), (117, .goto 4, 39, 0, 0, []), (120, .iconst 0, 0, 0, 0, []), (121, .ireturn, 0, 0, 0, []), (122, .ldc 53, 0, 0, (-2147483648), []), (124, .ireturn, 0, 0, 0, [])]
-- 82 WhoIsWhoModel.in(III)Z
def am_c82 : List am_E := [(0, .iload_n 1, 0, 0, 0, []), (1, .iload_n 2, 0, 0, 0, []), (2, .if_icmp .lt 12, 8, 0, 0, []), (5, .iload_n 1, 0, 0, 0, []), (6, .iload_n 3, 0, 0, 0, []), (7, .if_icmp .gt 7, 8, 0, 0, []), (10, .iconst 1, 0, 0, 1, []), (11, .goto 4, 9, 0, 0, []), (14, .iconst 0, 0, 0, 0, []), (15, .ireturn, 1, 0, 0, [])]
-- 83 WhoIsWhoModel.isWatcher(I)Z
def am_c83 : List am_E := [(0, .aload_n 0, 0, 0, 0, []), (1, .iload_n 1, 0, 0, 0, []), (2, .iconst 0, 0, 0, 0, []), (3, .aload_n 0, 0, 0, 0, []), (4, .getfield 7, 10, 0, 0, []), (7, .iconst 1, 0, 0, 1, []), (8, .isub, 0, 0, 0, []), (9, .invokevirtual 130, 82, 3, 0, []), (12, .ireturn, 1, 0, 0, [])]
-- 84 WhoIsWhoModel.isScan(I)Z
def am_c84 : List am_E := [(0, .aload_n 0, 0, 0, 0, []), (1, .iload_n 1, 0, 0, 0, []), (2, .iconst 0, 0, 0, 0, []), (3, .aload_n 0, 0, 0, 0, []), (4, .getfield 13, 10, 1, 0, []), (7, .iconst 1, 0, 0, 1, []), (8, .isub, 0, 0, 0, []), (9, .invokevirtual 130, 82, 3, 0, []), (12, .ireturn, 1, 0, 0, [])]
-- 85 WhoIsWhoModel.isDot(II)Z
def am_c85 : List am_E := [(0, .aload_n 0, 0, 0, 0, []), (1, .iload_n 1, 0, 0, 0, []), (2, .invokevirtual 134, 84, 1, 0, []), (5, .ifCond .eq 24, 17, 0, 0, []), (8, .aload_n 0, 0, 0, 0, []), (9, .iload_n 2, 0, 0, 0, []), (10, .iconst 0, 0, 0, 0, []), (11, .aload_n 0, 0, 0, 0, []), (12, .getfield 32, 10, 7, 0, []), (15, .iload_n 1, 0, 0, 0, []), (16, .iaload, 0, 0, 0, []), (17, .iconst 1, 0, 0, 1, []), (18, .isub, 0, 0, 0, []), (19, .invokevirtual 130, 82, 3, 0, []), (22, .ifCond .eq 7, 17, 0, 0, []), (25, .iconst 1, 0, 0, 1, []), (26, .goto 4, 18, 0, 0, []), (29, .iconst 0, 0, 0, 0, []), (30, .ireturn, 1, 0, 0, [])]
-- 86 WhoIsWhoModel.watcher()I
def am_c86 : List am_E := [(0, .aload_n 0, 0, 0, 0, []), (1, .getfield 7, 10, 0, 0, []), (4, .iconst 3, 0, 0, 3, []), (5, .if_icmp .ne 6, 6, 0, 0, []), (8, .bipush (-4), 0, 0, (-4), []), (10, .ireturn, 0, 0, 0, []), (11, .aload_n 0, 0, 0, 0, []), (12, .getfield 19, 10, 3, 0, []), (15, .aload_n 0, 0, 0, 0, []), (16, .getfield 7, 10, 0, 0, []), (19, .iconst 0, 0, 0, 0, []), (20, .iastore, 0, 0, 0, []), (21, .aload_n 0, 0, 0, 0, []), (22, .getfield 23, 10, 4, 0, []), (25, .aload_n 0, 0, 0, 0, []), (26, .getfield 7, 10, 0, 0, []), (29, .iconst 0, 0, 0, 0, []), (30, .iastore, 0, 0, 0, []), (31, .aload_n 0, 0, 0, 0, []), (32, .dup, 0, 0, 0, []), (33, .getfield 7, 10, 0, 0, []), (36, .iconst 1, 0, 0, 1, []), (37, .iadd, 0, 0, 0, []), (38, .putfield 7, 10, 0, 0, []), (41, .aload_n 0, 0, 0, 0, []), (42, .getfield 7, 10, 0, 0, []), (45, .iconst 1, 0, 0, 1, []), (46, .isub, 0, 0, 0, []), (47, .ireturn, 0, 0, 0, [])]
-- 87 WhoIsWhoModel.shift(III)I
def am_c87 : List am_E := [(0, .aload_n 0, 0, 0, 0, []), (1, .iload_n 1, 0, 0, 0, []), (2, .invokevirtual 138, 83, 1, 0, []), (5, .ifCond .ne 5, 6, 0, 0, []), (8, .iconst (-1), 0, 0, (-1), []), (9, .ireturn, 0, 0, 0, []), (10, .aload_n 0, 0, 0, 0, []), (11, .iload_n 2, 0, 0, 0, []), (12, .bipush (-50), 0, 0, (-50), []), (14, .bipush 50, 0, 0, 50, []), (16, .invokevirtual 130, 82, 3, 0, []), (19, .ifCond .eq 15, 18, 0, 0, []), (22, .aload_n 0, 0, 0, 0, []), (23, .iload_n 3, 0, 0, 0, []), (24, .bipush (-50), 0, 0, (-50), []), (26, .bipush 50, 0, 0, 50, []), (28, .invokevirtual 130, 82, 3, 0, []), (31, .ifCond .ne 6, 20, 0, 0, []), (34, .bipush (-2), 0, 0, (-2), []), (36, .ireturn, 0, 0, 0, []), (37, .aload_n 0, 0, 0, 0, []), (38, .getfield 19, 10, 3, 0, []), (41, .iload_n 1, 0, 0, 0, []), (42, .iload_n 2, 0, 0, 0, []), (43, .iastore, 0, 0, 0, []), (44, .aload_n 0, 0, 0, 0, []), (45, .getfield 23, 10, 4, 0, []), (48, .iload_n 1, 0, 0, 0, []), (49, .iload_n 3, 0, 0, 0, []), (50, .iastore, 0, 0, 0, []), (51, .aload_n 0, 0, 0, 0, []), (52, .iconst 1, 0, 0, 1, []), (53, .putfield 59, 10, 16, 0, []), (56, .iconst 0, 0, 0, 0, []), (57, .ireturn, 0, 0, 0, [])]
-- 88 WhoIsWhoModel.dot(III)I
def am_c88 : List am_E := [(0, .aload_n 0, 0, 0, 0, []), (1, .iload_n 1, 0, 0, 0, []), (2, .sipush (-1000), 0, 0, (-1000), []), (5, .sipush 1000, 0, 0, 1000, []), (8, .invokevirtual 130, 82, 3, 0, []), (11, .ifCond .eq 28, 18, 0, 0, []), (14, .aload_n 0, 0, 0, 0, []), (15, .iload_n 2, 0, 0, 0, []), (16, .sipush (-1000), 0, 0, (-1000), []), (19, .sipush 1000, 0, 0, 1000, []), (22, .invokevirtual 130, 82, 3, 0, []), (25, .ifCond .eq 14, 18, 0, 0, []), (28, .aload_n 0, 0, 0, 0, []), (29, .iload_n 3, 0, 0, 0, []), (30, .iconst 0, 0, 0, 0, []), (31, .bipush 9, 0, 0, 9, []), (33, .invokevirtual 130, 82, 3, 0, []), (36, .ifCond .ne 6, 20, 0, 0, []), (39, .bipush (-2), 0, 0, (-2), []), (41, .ireturn, 0, 0, 0, []), (42, .aload_n 0, 0, 0, 0, []), (43, .getfield 16, 10, 2, 0, []), (46, .iconst 4, 0, 0, 4, []), (47, .if_icmp .ne 6, 26, 0, 0, []), (50, .bipush (-4), 0, 0, (-4), []), (52, .ireturn, 0, 0, 0, []), (53, .aload_n 0, 0, 0, 0, []), (54, .getfield 44, 10, 11, 0, []), (57, .aload_n 0, 0, 0, 0, []), (58, .getfield 16, 10, 2, 0, []), (61, .iload_n 1, 0, 0, 0, []), (62, .iastore, 0, 0, 0, []), (63, .aload_n 0, 0, 0, 0, []), (64, .getfield 47, 10, 12, 0, []), (67, .aload_n 0, 0, 0, 0, []), (68, .getfield 16, 10, 2, 0, []), (71, .iload_n 2, 0, 0, 0, []), (72, .iastore, 0, 0, 0, []), (73, .aload_n 0, 0, 0, 0, []), (74, .getfield 50, 10, 13, 0, []), (77, .aload_n 0, 0, 0, 0, []), (78, .getfield 16, 10, 2, 0, []), (81, .iload_n 3, 0, 0, 0, []), (82, .iastore, 0, 0, 0, []), (83, .aload_n 0, 0, 0, 0, []), (84, .dup, 0, 0, 0, []), (85, .getfield 16, 10, 2, 0, []), (88, .iconst 1, 0, 0, 1, []), (89, .iadd, 0, 0, 0, []), (90, .putfield 16, 10, 2, 0, []), (93, .aload_n 0, 0, 0, 0, []), (94, .getfield 16, 10, 2, 0, []), (97, .ireturn, 0, 0, 0, [])]
-- 89 WhoIsWhoModel.scan(II)I
def am_c89 : List am_E := [(0, .aload_n 0, 0, 0, 0, []), (1, .iload_n 1, 0, 0, 0, []), (2, .invokevirtual 138, 83, 1, 0, []), (5, .ifCond .ne 5, 6, 0, 0, []), (8, .iconst (-1), 0, 0, (-1), []), (9, .ireturn, 0, 0, 0, []), (10, .aload_n 0, 0, 0, 0, []), (11, .iload_n 2, 0, 0, 0, []), (12, .iconst 0, 0, 0, 0, []), (13, .sipush 999, 0, 0, 999, []), (16, .invokevirtual 130, 82, 3, 0, []), (19, .ifCond .ne 6, 14, 0, 0, []), (22, .bipush (-2), 0, 0, (-2), []), (24, .ireturn, 0, 0, 0, []), (25, .aload_n 0, 0, 0, 0, []), (26, .getfield 13, 10, 1, 0, []), (29, .bipush 12, 0, 0, 12, []), (31, .if_icmp .ne 6, 20, 0, 0, []), (34, .bipush (-4), 0, 0, (-4), []), (36, .ireturn, 0, 0, 0, []), (37, .aload_n 0, 0, 0, 0, []), (38, .getfield 26, 10, 5, 0, []), (41, .aload_n 0, 0, 0, 0, []), (42, .getfield 13, 10, 1, 0, []), (45, .iload_n 1, 0, 0, 0, []), (46, .iastore, 0, 0, 0, []), (47, .aload_n 0, 0, 0, 0, []), (48, .getfield 29, 10, 6, 0, []), (51, .aload_n 0, 0, 0, 0, []), (52, .getfield 13, 10, 1, 0, []), (55, .iload_n 2, 0, 0, 0, []), (56, .iastore, 0, 0, 0, []), (57, .aload_n 0, 0, 0, 0, []), (58, .getfield 32, 10, 7, 0, []), (61, .aload_n 0, 0, 0, 0, []), (62, .getfield 13, 10, 1, 0, []), (65, .aload_n 0, 0, 0, 0, []), (66, .getfield 16, 10, 2, 0, []), (69, .iastore, 0, 0, 0, []), (70, .iconst 0, 0, 0, 0, []), (71, .istore_n 3, 0, 0, 0, []), (72, .iload_n 3, 0, 0, 0, []), (73, .aload_n 0, 0, 0, 0, []), (74, .getfield 16, 10, 2, 0, []), (77, .if_icmp .ge 66, 86, 0, 0, []), (80, .aload_n 0, 0, 0, 0, []), (81, .getfield 35, 10, 8, 0, []), (84, .iconst 4, 0, 0, 4, []), (85, .aload_n 0, 0, 0, 0, []), (86, .getfield 13, 10, 1, 0, []), (89, .imul, 0, 0, 0, []), (90, .iload_n 3, 0, 0, 0, []), (91, .iadd, 0, 0, 0, []), (92, .aload_n 0, 0, 0, 0, []), (93, .getfield 44, 10, 11, 0, []), (96, .iload_n 3, 0, 0, 0, []), (97, .iaload, 0, 0, 0, []), (98, .iastore, 0, 0, 0, []), (99, .aload_n 0, 0, 0, 0, []), (100, .getfield 38, 10, 9, 0, []), (103, .iconst 4, 0, 0, 4, []), (104, .aload_n 0, 0, 0, 0, []), (105, .getfield 13, 10, 1, 0, []), (108, .imul, 0, 0, 0, []), (109, .iload_n 3, 0, 0, 0, []), (110, .iadd, 0, 0, 0, []), (111, .aload_n 0, 0, 0, 0, []), (112, .getfield 47, 10, 12, 0, []), (115, .iload_n 3, 0, 0, 0, []), (116, .iaload, 0, 0, 0, []), (117, .iastore, 0, 0, 0, []), (118, .aload_n 0, 0, 0, 0, []), (119, .getfield 41, 10, 10, 0, []), (122, .iconst 4, 0, 0, 4, []), (123, .aload_n 0, 0, 0, 0, []), (124, .getfield 13, 10, 1, 0, []), (127, .imul, 0, 0, 0, []), (128, .iload_n 3, 0, 0, 0, []), (129, .iadd, 0, 0, 0, []), (130, .aload_n 0, 0, 0, 0, []), (131, .getfield 50, 10, 13, 0, []), (134, .iload_n 3, 0, 0, 0, []), (135, .iaload, 0, 0, 0, []), (136, .iastore, 0, 0, 0, []), (137, .iinc 3 1, 0, 0, 1, []), (140, .goto (-68), 41, 0, 0, []), (143, .aload_n 0, 0, 0, 0, []), (144, .iconst 0, 0, 0, 0, []), (145, .putfield 16, 10, 2, 0, []), (148, .aload_n 0, 0, 0, 0, []), (149, .dup, 0, 0, 0, []), (150, .getfield 13, 10, 1, 0, []), (153, .iconst 1, 0, 0, 1, []), (154, .iadd, 0, 0, 0, []), (155, .putfield 13, 10, 1, 0, []), (158, .aload_n 0, 0, 0, 0, []), (159, .iconst 1, 0, 0, 1, []), (160, .putfield 59, 10, 16, 0, []), (163, .aload_n 0, 0, 0, 0, []), (164, .getfield 13, 10, 1, 0, []), (167, .iconst 1, 0, 0, 1, []), (168, .isub, 0, 0, 0, []), (169, .ireturn, 0, 0, 0, [])]
-- 90 WhoIsWhoModel.drop(I)I
def am_c90 : List am_E := [(0, .aload_n 0, 0, 0, 0, []), (1, .iload_n 1, 0, 0, 0, []), (2, .invokevirtual 134, 84, 1, 0, []), (5, .ifCond .ne 5, 6, 0, 0, []), (8, .iconst (-1), 0, 0, (-1), []), (9, .ireturn, 0, 0, 0, []), (10, .aload_n 0, 0, 0, 0, []), (11, .dup, 0, 0, 0, []), (12, .getfield 13, 10, 1, 0, []), (15, .iconst 1, 0, 0, 1, []), (16, .isub, 0, 0, 0, []), (17, .putfield 13, 10, 1, 0, []), (20, .iload_n 1, 0, 0, 0, []), (21, .istore_n 2, 0, 0, 0, []), (22, .iload_n 2, 0, 0, 0, []), (23, .aload_n 0, 0, 0, 0, []), (24, .getfield 13, 10, 1, 0, []), (27, .if_icmp .ge 130, 111, 0, 0, []), (30, .aload_n 0, 0, 0, 0, []), (31, .getfield 26, 10, 5, 0, []), (34, .iload_n 2, 0, 0, 0, []), (35, .aload_n 0, 0, 0, 0, []), (36, .getfield 26, 10, 5, 0, []), (39, .iload_n 2, 0, 0, 0, []), (40, .iconst 1, 0, 0, 1, []), (41, .iadd, 0, 0, 0, []), (42, .iaload, 0, 0, 0, []), (43, .iastore, 0, 0, 0, []), (44, .aload_n 0, 0, 0, 0, []), (45, .getfield 29, 10, 6, 0, []), (48, .iload_n 2, 0, 0, 0, []), (49, .aload_n 0, 0, 0, 0, []), (50, .getfield 29, 10, 6, 0, []), (53, .iload_n 2, 0, 0, 0, []), (54, .iconst 1, 0, 0, 1, []), (55, .iadd, 0, 0, 0, []), (56, .iaload, 0, 0, 0, []), (57, .iastore, 0, 0, 0, []), (58, .aload_n 0, 0, 0, 0, []), (59, .getfield 32, 10, 7, 0, []), (62, .iload_n 2, 0, 0, 0, []), (63, .aload_n 0, 0, 0, 0, []), (64, .getfield 32, 10, 7, 0, []), (67, .iload_n 2, 0, 0, 0, []), (68, .iconst 1, 0, 0, 1, []), (69, .iadd, 0, 0, 0, []), (70, .iaload, 0, 0, 0, []), (71, .iastore, 0, 0, 0, []), (72, .iconst 0, 0, 0, 0, []), (73, .istore_n 3, 0, 0, 0, []), (74, .iload_n 3, 0, 0, 0, []), (75, .iconst 4, 0, 0, 4, []), (76, .if_icmp .ge 75, 109, 0, 0, []), (79, .aload_n 0, 0, 0, 0, []), (80, .getfield 35, 10, 8, 0, []), (83, .iconst 4, 0, 0, 4, []), (84, .iload_n 2, 0, 0, 0, []), (85, .imul, 0, 0, 0, []), (86, .iload_n 3, 0, 0, 0, []), (87, .iadd, 0, 0, 0, []), (88, .aload_n 0, 0, 0, 0, []), (89, .getfield 35, 10, 8, 0, []), (92, .iconst 4, 0, 0, 4, []), (93, .iload_n 2, 0, 0, 0, []), (94, .imul, 0, 0, 0, []), (95, .iconst 4, 0, 0, 4, []), (96, .iadd, 0, 0, 0, []), (97, .iload_n 3, 0, 0, 0, []), (98, .iadd, 0, 0, 0, []), (99, .iaload, 0, 0, 0, []), (100, .iastore, 0, 0, 0, []), (101, .aload_n 0, 0, 0, 0, []), (102, .getfield 38, 10, 9, 0, []), (105, .iconst 4, 0, 0, 4, []), (106, .iload_n 2, 0, 0, 0, []), (107, .imul, 0, 0, 0, []), (108, .iload_n 3, 0, 0, 0, []), (109, .iadd, 0, 0, 0, []), (110, .aload_n 0, 0, 0, 0, []), (111, .getfield 38, 10, 9, 0, []), (114, .iconst 4, 0, 0, 4, []), (115, .iload_n 2, 0, 0, 0, []), (116, .imul, 0, 0, 0, []), (117, .iconst 4, 0, 0, 4, []), (118, .iadd, 0, 0, 0, []), (119, .iload_n 3, 0, 0, 0, []), (120, .iadd, 0, 0, 0, []), (121, .iaload, 0, 0, 0, []), (122, .iastore, 0, 0, 0, []), (123, .aload_n 0, 0, 0, 0, []), (124, .getfield 41, 10, 10, 0, []), (127, .iconst 4, 0, 0, 4, []), (128, .iload_n 2, 0, 0, 0, []), (129, .imul, 0, 0, 0, []), (130, .iload_n 3, 0, 0, 0, []), (131, .iadd, 0, 0, 0, []), (132, .aload_n 0, 0, 0, 0, []), (133, .getfield 41, 10, 10, 0, []), (136, .iconst 4, 0, 0, 4, []), (137, .iload_n 2, 0, 0, 0, []), (138, .imul, 0, 0, 0, []), (139, .iconst 4, 0, 0, 4, []), (140, .iadd, 0, 0, 0, []), (141, .iload_n 3, 0, 0, 0, []), (142, .iadd, 0, 0, 0, []), (143, .iaload, 0, 0, 0, []), (144, .iastore, 0, 0, 0, []), (145, .iinc 3 1, 0, 0, 1, []), (148, .goto (-74), 50, 0, 0, []), (151, .iinc 2 1, 0, 0, 1, []), (154, .goto (-132), 14, 0, 0, []), (157, .aload_n 0, 0, 0, 0, []), (158, .iconst 1, 0, 0, 1, []), (159, .putfield 59, 10, 16, 0, []), (162, .aload_n 0, 0, 0, 0, []), (163, .getfield 13, 10, 1, 0, []), (166, .ireturn, 0, 0, 0, [])]
-- 91 WhoIsWhoModel.kind(II)I
def am_c91 : List am_E := [(0, .aload_n 0, 0, 0, 0, []), (1, .iload_n 1, 0, 0, 0, []), (2, .iconst 1, 0, 0, 1, []), (3, .bipush 9, 0, 0, 9, []), (5, .invokevirtual 130, 82, 3, 0, []), (8, .ifCond .ne 5, 8, 0, 0, []), (11, .iconst (-1), 0, 0, (-1), []), (12, .ireturn, 0, 0, 0, []), (13, .aload_n 0, 0, 0, 0, []), (14, .iload_n 2, 0, 0, 0, []), (15, .iconst 0, 0, 0, 0, []), (16, .iconst 2, 0, 0, 2, []), (17, .invokevirtual 130, 82, 3, 0, []), (20, .ifCond .ne 6, 16, 0, 0, []), (23, .bipush (-2), 0, 0, (-2), []), (25, .ireturn, 0, 0, 0, []), (26, .aload_n 0, 0, 0, 0, []), (27, .getfield 53, 10, 14, 0, []), (30, .iload_n 1, 0, 0, 0, []), (31, .iaload, 0, 0, 0, []), (32, .istore_n 3, 0, 0, 0, []), (33, .aload_n 0, 0, 0, 0, []), (34, .getfield 53, 10, 14, 0, []), (37, .iload_n 1, 0, 0, 0, []), (38, .iload_n 2, 0, 0, 0, []), (39, .iastore, 0, 0, 0, []), (40, .aload_n 0, 0, 0, 0, []), (41, .iconst 1, 0, 0, 1, []), (42, .putfield 59, 10, 16, 0, []), (45, .iload_n 3, 0, 0, 0, []), (46, .ireturn, 0, 0, 0, [])]
-- 92 WhoIsWhoModel.rule(II)I
def am_c92 : List am_E := [(0, .aload_n 0, 0, 0, 0, []), (1, .iload_n 1, 0, 0, 0, []), (2, .iconst 0, 0, 0, 0, []), (3, .iconst 5, 0, 0, 5, []), (4, .invokevirtual 130, 82, 3, 0, []), (7, .ifCond .ne 5, 8, 0, 0, []), (10, .iconst (-1), 0, 0, (-1), []), (11, .ireturn, 0, 0, 0, []), (12, .aload_n 0, 0, 0, 0, []), (13, .iload_n 2, 0, 0, 0, []), (14, .iload_n 1, 0, 0, 0, []), (15, .iconst 4, 0, 0, 4, []), (16, .if_icmp .ge 7, 15, 0, 0, []), (19, .iconst 0, 0, 0, 0, []), (20, .goto 4, 16, 0, 0, []), (23, .iconst 1, 0, 0, 1, []), (24, .iload_n 1, 0, 0, 0, []), (25, .ifCond .ne 9, 20, 0, 0, []), (28, .sipush 500, 0, 0, 500, []), (31, .goto 24, 31, 0, 0, []), (34, .iload_n 1, 0, 0, 0, []), (35, .iconst 4, 0, 0, 4, []), (36, .if_icmp .ge 8, 25, 0, 0, []), (39, .ldc 141, 0, 0, 100000, []), (41, .goto 14, 31, 0, 0, []), (44, .iload_n 1, 0, 0, 0, []), (45, .iconst 4, 0, 0, 4, []), (46, .if_icmp .ne 8, 30, 0, 0, []), (49, .bipush 9, 0, 0, 9, []), (51, .goto 4, 31, 0, 0, []), (54, .iconst 4, 0, 0, 4, []), (55, .invokevirtual 130, 82, 3, 0, []), (58, .ifCond .ne 6, 35, 0, 0, []), (61, .bipush (-2), 0, 0, (-2), []), (63, .ireturn, 0, 0, 0, []), (64, .aload_n 0, 0, 0, 0, []), (65, .getfield 56, 10, 15, 0, []), (68, .iload_n 1, 0, 0, 0, []), (69, .iaload, 0, 0, 0, []), (70, .istore_n 3, 0, 0, 0, []), (71, .aload_n 0, 0, 0, 0, []), (72, .getfield 56, 10, 15, 0, []), (75, .iload_n 1, 0, 0, 0, []), (76, .iload_n 2, 0, 0, 0, []), (77, .iastore, 0, 0, 0, []), (78, .aload_n 0, 0, 0, 0, []), (79, .iconst 1, 0, 0, 1, []), (80, .putfield 59, 10, 16, 0, []), (83, .iload_n 3, 0, 0, 0, []), (84, .ireturn, 0, 0, 0, [])]
-- 93 WhoIsWhoModel.sort()V
def am_c93 : List am_E := [(0, .iconst 0, 0, 0, 0, []), (1, .istore_n 1, 0, 0, 0, []), (2, .iload_n 1, 0, 0, 0, []), (3, .aload_n 0, 0, 0, 0, []), (4, .getfield 13, 10, 1, 0, []), (7, .if_icmp .ge 64, 43, 0, 0, []), (10, .iload_n 1, 0, 0, 0, []), (11, .istore_n 2, 0, 0, 0, []), (12, .iload_n 2, 0, 0, 0, []), (13, .ifCond .le 45, 36, 0, 0, []), (16, .aload_n 0, 0, 0, 0, []), (17, .getfield 29, 10, 6, 0, []), (20, .aload_n 0, 0, 0, 0, []), (21, .getfield 63, 10, 17, 0, []), (24, .iload_n 2, 0, 0, 0, []), (25, .iconst 1, 0, 0, 1, []), (26, .isub, 0, 0, 0, []), (27, .iaload, 0, 0, 0, []), (28, .iaload, 0, 0, 0, []), (29, .aload_n 0, 0, 0, 0, []), (30, .getfield 29, 10, 6, 0, []), (33, .iload_n 1, 0, 0, 0, []), (34, .iaload, 0, 0, 0, []), (35, .if_icmp .le 23, 36, 0, 0, []), (38, .aload_n 0, 0, 0, 0, []), (39, .getfield 63, 10, 17, 0, []), (42, .iload_n 2, 0, 0, 0, []), (43, .aload_n 0, 0, 0, 0, []), (44, .getfield 63, 10, 17, 0, []), (47, .iload_n 2, 0, 0, 0, []), (48, .iconst 1, 0, 0, 1, []), (49, .isub, 0, 0, 0, []), (50, .iaload, 0, 0, 0, []), (51, .iastore, 0, 0, 0, []), (52, .iinc 2 (-1), 0, 0, (-1), []), (55, .goto (-43), 8, 0, 0, []), (58, .aload_n 0, 0, 0, 0, []), (59, .getfield 63, 10, 17, 0, []), (62, .iload_n 2, 0, 0, 0, []), (63, .iload_n 1, 0, 0, 0, []), (64, .iastore, 0, 0, 0, []), (65, .iinc 1 1, 0, 0, 1, []), (68, .goto (-66), 2, 0, 0, []), (71, .return_, 2, 0, 0, [])]
-- 94 WhoIsWhoModel.rightX(II)I
def am_c94 : List am_E := [(0, .aload_n 0, 0, 0, 0, []), (1, .getfield 35, 10, 8, 0, []), (4, .iconst 4, 0, 0, 4, []), (5, .iload_n 1, 0, 0, 0, []), (6, .imul, 0, 0, 0, []), (7, .iload_n 2, 0, 0, 0, []), (8, .iadd, 0, 0, 0, []), (9, .iaload, 0, 0, 0, []), (10, .aload_n 0, 0, 0, 0, []), (11, .getfield 19, 10, 3, 0, []), (14, .aload_n 0, 0, 0, 0, []), (15, .getfield 26, 10, 5, 0, []), (18, .iload_n 1, 0, 0, 0, []), (19, .iaload, 0, 0, 0, []), (20, .iaload, 0, 0, 0, []), (21, .iadd, 0, 0, 0, []), (22, .ireturn, 0, 0, 0, [])]
-- 95 WhoIsWhoModel.rightY(II)I
def am_c95 : List am_E := [(0, .aload_n 0, 0, 0, 0, []), (1, .getfield 38, 10, 9, 0, []), (4, .iconst 4, 0, 0, 4, []), (5, .iload_n 1, 0, 0, 0, []), (6, .imul, 0, 0, 0, []), (7, .iload_n 2, 0, 0, 0, []), (8, .iadd, 0, 0, 0, []), (9, .iaload, 0, 0, 0, []), (10, .aload_n 0, 0, 0, 0, []), (11, .getfield 23, 10, 4, 0, []), (14, .aload_n 0, 0, 0, 0, []), (15, .getfield 26, 10, 5, 0, []), (18, .iload_n 1, 0, 0, 0, []), (19, .iaload, 0, 0, 0, []), (20, .iaload, 0, 0, 0, []), (21, .iadd, 0, 0, 0, []), (22, .ireturn, 0, 0, 0, [])]
-- 96 WhoIsWhoModel.foretold(IIZ)J
def am_c96 : List am_E := [(0, .iload_n 2, 0, 0, 0, []), (1, .aload_n 0, 0, 0, 0, []), (2, .getfield 93, 10, 27, 0, []), (5, .iload_n 1, 0, 0, 0, []), (6, .iaload, 0, 0, 0, []), (7, .isub, 0, 0, 0, []), (8, .i2l, 0, 0, 0, []), (9, .lstore 4, 0, 0, 0, []), (11, .iload_n 3, 0, 0, 0, []), (12, .ifCond .eq 13, 16, 0, 0, []), (15, .aload_n 0, 0, 0, 0, []), (16, .getfield 84, 10, 24, 0, []), (19, .iload_n 1, 0, 0, 0, []), (20, .iaload, 0, 0, 0, []), (21, .i2l, 0, 0, 0, []), (22, .goto 10, 21, 0, 0, []), (25, .aload_n 0, 0, 0, 0, []), (26, .getfield 81, 10, 23, 0, []), (29, .iload_n 1, 0, 0, 0, []), (30, .iaload, 0, 0, 0, []), (31, .i2l, 0, 0, 0, []), (32, .lstore 6, 0, 0, 0, []), (34, .iload_n 3, 0, 0, 0, []), (35, .ifCond .eq 13, 30, 0, 0, []), (38, .aload_n 0, 0, 0, 0, []), (39, .getfield 90, 10, 26, 0, []), (42, .iload_n 1, 0, 0, 0, []), (43, .iaload, 0, 0, 0, []), (44, .i2l, 0, 0, 0, []), (45, .goto 10, 35, 0, 0, []), (48, .aload_n 0, 0, 0, 0, []), (49, .getfield 87, 10, 25, 0, []), (52, .iload_n 1, 0, 0, 0, []), (53, .iaload, 0, 0, 0, []), (54, .i2l, 0, 0, 0, []), (55, .lstore 8, 0, 0, 0, []), (57, .aload_n 0, 0, 0, 0, []), (58, .getfield 53, 10, 14, 0, []), (61, .aload_n 0, 0, 0, 0, []), (62, .getfield 102, 10, 30, 0, []), (65, .iload_n 1, 0, 0, 0, []), (66, .iaload, 0, 0, 0, []), (67, .iaload, 0, 0, 0, []), (68, .istore 10, 0, 0, 0, []), (70, .iload 10, 0, 0, 0, []), (72, .ifCond .ne 14, 52, 0, 0, []), (75, .lload 6, 0, 0, 0, []), (77, .lload 4, 0, 0, 0, []), (79, .lload 8, 0, 0, 0, []), (81, .lmul, 0, 0, 0, []), (82, .ladd, 0, 0, 0, []), (83, .goto 22, 62, 0, 0, []), (86, .iload 10, 0, 0, 0, []), (88, .iconst 1, 0, 0, 1, []), (89, .if_icmp .ne 8, 57, 0, 0, []), (92, .lload 6, 0, 0, 0, []), (94, .goto 11, 62, 0, 0, []), (97, .lload 6, 0, 0, 0, []), (99, .lload 4, 0, 0, 0, []), (101, .lload 8, 0, 0, 0, []), (103, .lmul, 0, 0, 0, []), (104, .lsub, 0, 0, 0, []), (105, .lreturn, 3, 0, 0, [])]
-- 97 WhoIsWhoModel.findJoins(II)V
def am_c97 : List am_E := [(0, .iconst 0, 0, 0, 0, []), (1, .istore_n 3, 0, 0, 0, []), (2, .iload_n 3, 0, 0, 0, []), (3, .aload_n 0, 0, 0, 0, []), (4, .getfield 32, 10, 7, 0, []), (7, .iload_n 2, 0, 0, 0, []), (8, .iaload, 0, 0, 0, []), (9, .if_icmp .ge 241, 152, 0, 0, []), (12, .iconst 0, 0, 0, 0, []), (13, .istore 4, 0, 0, 0, []), (15, .iload 4, 0, 0, 0, []), (17, .bipush 6, 0, 0, 6, []), (19, .if_icmp .ge 189, 126, 0, 0, []), (22, .aload_n 0, 0, 0, 0, []), (23, .getfield 109, 10, 32, 0, []), (26, .bipush 8, 0, 0, 8, []), (28, .iload_n 3, 0, 0, 0, []), (29, .imul, 0, 0, 0, []), (30, .iload 4, 0, 0, 0, []), (32, .iadd, 0, 0, 0, []), (33, .iconst (-1), 0, 0, (-1), []), (34, .iastore, 0, 0, 0, []), (35, .bipush 6, 0, 0, 6, []), (37, .iload_n 1, 0, 0, 0, []), (38, .imul, 0, 0, 0, []), (39, .iload 4, 0, 0, 0, []), (41, .iadd, 0, 0, 0, []), (42, .istore 5, 0, 0, 0, []), (44, .iload 4, 0, 0, 0, []), (46, .aload_n 0, 0, 0, 0, []), (47, .getfield 75, 10, 21, 0, []), (50, .iload_n 1, 0, 0, 0, []), (51, .iaload, 0, 0, 0, []), (52, .if_icmp .ge 150, 124, 0, 0, []), (55, .aload_n 0, 0, 0, 0, []), (56, .getfield 105, 10, 31, 0, []), (59, .iload 5, 0, 0, 0, []), (61, .baload, 0, 0, 0, []), (62, .ifCond .eq 6, 40, 0, 0, []), (65, .goto 137, 124, 0, 0, []), (68, .aload_n 0, 0, 0, 0, []), (69, .iload_n 2, 0, 0, 0, []), (70, .iload_n 3, 0, 0, 0, []), (71, .invokevirtual 142, 94, 2, 0, []), (74, .i2l, 0, 0, 0, []), (75, .aload_n 0, 0, 0, 0, []), (76, .iload 5, 0, 0, 0, []), (78, .aload_n 0, 0, 0, 0, []), (79, .getfield 29, 10, 6, 0, []), (82, .iload_n 2, 0, 0, 0, []), (83, .iaload, 0, 0, 0, []), (84, .iconst 0, 0, 0, 0, []), (85, .invokevirtual 146, 96, 3, 0, []), (88, .lsub, 0, 0, 0, []), (89, .lstore 6, 0, 0, 0, []), (91, .aload_n 0, 0, 0, 0, []), (92, .iload_n 2, 0, 0, 0, []), (93, .iload_n 3, 0, 0, 0, []), (94, .invokevirtual 150, 95, 2, 0, []), (97, .i2l, 0, 0, 0, []), (98, .aload_n 0, 0, 0, 0, []), (99, .iload 5, 0, 0, 0, []), (101, .aload_n 0, 0, 0, 0, []), (102, .getfield 29, 10, 6, 0, []), (105, .iload_n 2, 0, 0, 0, []), (106, .iaload, 0, 0, 0, []), (107, .iconst 1, 0, 0, 1, []), (108, .invokevirtual 146, 96, 3, 0, []), (111, .lsub, 0, 0, 0, []), (112, .lstore 8, 0, 0, 0, []), (114, .lload 6, 0, 0, 0, []), (116, .lload 6, 0, 0, 0, []), (118, .lmul, 0, 0, 0, []), (119, .lload 8, 0, 0, 0, []), (121, .lload 8, 0, 0, 0, []), (123, .lmul, 0, 0, 0, []), (124, .ladd, 0, 0, 0, []), (125, .lstore 10, 0, 0, 0, []), (127, .aload_n 0, 0, 0, 0, []), (128, .getfield 41, 10, 10, 0, []), (131, .iconst 4, 0, 0, 4, []), (132, .iload_n 2, 0, 0, 0, []), (133, .imul, 0, 0, 0, []), (134, .iload_n 3, 0, 0, 0, []), (135, .iadd, 0, 0, 0, []), (136, .iaload, 0, 0, 0, []), (137, .istore 12, 0, 0, 0, []), (139, .lload 10, 0, 0, 0, []), (141, .aload_n 0, 0, 0, 0, []), (142, .getfield 56, 10, 15, 0, []), (145, .iconst 0, 0, 0, 0, []), (146, .iaload, 0, 0, 0, []), (147, .i2l, 0, 0, 0, []), (148, .aload_n 0, 0, 0, 0, []), (149, .getfield 56, 10, 15, 0, []), (152, .iconst 0, 0, 0, 0, []), (153, .iaload, 0, 0, 0, []), (154, .i2l, 0, 0, 0, []), (155, .lmul, 0, 0, 0, []), (156, .lcmp, 0, 0, 0, []), (157, .ifCond .gt 45, 124, 0, 0, []), (160, .iload 12, 0, 0, 0, []), (162, .ifCond .eq 25, 114, 0, 0, []), (165, .aload_n 0, 0, 0, 0, []), (166, .getfield 102, 10, 30, 0, []), (169, .iload 5, 0, 0, 0, []), (171, .iaload, 0, 0, 0, []), (172, .ifCond .eq 15, 114, 0, 0, []), (175, .iload 12, 0, 0, 0, []), (177, .aload_n 0, 0, 0, 0, []), (178, .getfield 102, 10, 30, 0, []), (181, .iload 5, 0, 0, 0, []), (183, .iaload, 0, 0, 0, []), (184, .if_icmp .ne 18, 124, 0, 0, []), (187, .aload_n 0, 0, 0, 0, []), (188, .getfield 109, 10, 32, 0, []), (191, .bipush 8, 0, 0, 8, []), (193, .iload_n 3, 0, 0, 0, []), (194, .imul, 0, 0, 0, []), (195, .iload 4, 0, 0, 0, []), (197, .iadd, 0, 0, 0, []), (198, .lload 10, 0, 0, 0, []), (200, .l2i, 0, 0, 0, []), (201, .iastore, 0, 0, 0, []), (202, .iinc 4 1, 0, 0, 1, []), (205, .goto (-190), 10, 0, 0, []), (208, .aload_n 0, 0, 0, 0, []), (209, .getfield 109, 10, 32, 0, []), (212, .bipush 8, 0, 0, 8, []), (214, .iload_n 3, 0, 0, 0, []), (215, .imul, 0, 0, 0, []), (216, .bipush 6, 0, 0, 6, []), (218, .iadd, 0, 0, 0, []), (219, .aload_n 0, 0, 0, 0, []), (220, .getfield 56, 10, 15, 0, []), (223, .iconst 2, 0, 0, 2, []), (224, .iaload, 0, 0, 0, []), (225, .iastore, 0, 0, 0, []), (226, .aload_n 0, 0, 0, 0, []), (227, .getfield 109, 10, 32, 0, []), (230, .bipush 8, 0, 0, 8, []), (232, .iload_n 3, 0, 0, 0, []), (233, .imul, 0, 0, 0, []), (234, .bipush 7, 0, 0, 7, []), (236, .iadd, 0, 0, 0, []), (237, .aload_n 0, 0, 0, 0, []), (238, .getfield 56, 10, 15, 0, []), (241, .iconst 3, 0, 0, 3, []), (242, .iaload, 0, 0, 0, []), (243, .iastore, 0, 0, 0, []), (244, .iinc 3 1, 0, 0, 1, []), (247, .goto (-245), 2, 0, 0, []), (250, .return_, 2, 0, 0, [])]
-- 98 WhoIsWhoModel.digit(III)I
def am_c98 : List am_E := [(0, .iload_n 1, 0, 0, 0, []), (1, .iconst 3, 0, 0, 3, []), (2, .iload_n 2, 0, 0, 0, []), (3, .iconst 1, 0, 0, 1, []), (4, .isub, 0, 0, 0, []), (5, .iload_n 3, 0, 0, 0, []), (6, .isub, 0, 0, 0, []), (7, .imul, 0, 0, 0, []), (8, .ishr, 0, 0, 0, []), (9, .bipush 7, 0, 0, 7, []), (11, .iand, 0, 0, 0, []), (12, .ireturn, 0, 0, 0, [])]
-- 99 WhoIsWhoModel.costOf(III)I
def am_c99 : List am_E := [(0, .aload_n 0, 0, 0, 0, []), (1, .getfield 32, 10, 7, 0, []), (4, .iload_n 2, 0, 0, 0, []), (5, .iaload, 0, 0, 0, []), (6, .istore 4, 0, 0, 0, []), (8, .iconst 0, 0, 0, 0, []), (9, .istore 5, 0, 0, 0, []), (11, .iconst 0, 0, 0, 0, []), (12, .istore 6, 0, 0, 0, []), (14, .aload_n 0, 0, 0, 0, []), (15, .getfield 75, 10, 21, 0, []), (18, .iload_n 1, 0, 0, 0, []), (19, .iaload, 0, 0, 0, []), (20, .istore 7, 0, 0, 0, []), (22, .iconst 0, 0, 0, 0, []), (23, .istore 8, 0, 0, 0, []), (25, .iload 8, 0, 0, 0, []), (27, .iload 4, 0, 0, 0, []), (29, .if_icmp .ge 125, 85, 0, 0, []), (32, .aload_n 0, 0, 0, 0, []), (33, .iload_n 3, 0, 0, 0, []), (34, .iload 4, 0, 0, 0, []), (36, .iload 8, 0, 0, 0, []), (38, .invokevirtual 153, 98, 3, 0, []), (41, .istore 9, 0, 0, 0, []), (43, .aload_n 0, 0, 0, 0, []), (44, .getfield 109, 10, 32, 0, []), (47, .bipush 8, 0, 0, 8, []), (49, .iload 8, 0, 0, 0, []), (51, .imul, 0, 0, 0, []), (52, .iload 9, 0, 0, 0, []), (54, .iadd, 0, 0, 0, []), (55, .iaload, 0, 0, 0, []), (56, .ifCond .lt 35, 50, 0, 0, []), (59, .iload 9, 0, 0, 0, []), (61, .bipush 6, 0, 0, 6, []), (63, .if_icmp .ge 14, 44, 0, 0, []), (66, .iload 6, 0, 0, 0, []), (68, .iload 9, 0, 0, 0, []), (70, .ishr, 0, 0, 0, []), (71, .iconst 1, 0, 0, 1, []), (72, .iand, 0, 0, 0, []), (73, .iconst 1, 0, 0, 1, []), (74, .if_icmp .eq 17, 50, 0, 0, []), (77, .iload 9, 0, 0, 0, []), (79, .bipush 6, 0, 0, 6, []), (81, .if_icmp .ne 12, 52, 0, 0, []), (84, .iload 7, 0, 0, 0, []), (86, .bipush 6, 0, 0, 6, []), (88, .if_icmp .ne 5, 52, 0, 0, []), (91, .iconst (-1), 0, 0, (-1), []), (92, .ireturn, 0, 0, 0, []), (93, .iload 6, 0, 0, 0, []), (95, .iload 9, 0, 0, 0, []), (97, .bipush 6, 0, 0, 6, []), (99, .if_icmp .ge 10, 60, 0, 0, []), (102, .iconst 1, 0, 0, 1, []), (103, .iload 9, 0, 0, 0, []), (105, .ishl, 0, 0, 0, []), (106, .goto 4, 61, 0, 0, []), (109, .iconst 0, 0, 0, 0, []), (110, .ior, 0, 0, 0, []), (111, .istore 6, 0, 0, 0, []), (113, .iload 7, 0, 0, 0, []), (115, .iload 9, 0, 0, 0, []), (117, .bipush 6, 0, 0, 6, []), (119, .if_icmp .ne 7, 69, 0, 0, []), (122, .iconst 1, 0, 0, 1, []), (123, .goto 4, 70, 0, 0, []), (126, .iconst 0, 0, 0, 0, []), (127, .iadd, 0, 0, 0, []), (128, .istore 7, 0, 0, 0, []), (130, .iload 5, 0, 0, 0, []), (132, .aload_n 0, 0, 0, 0, []), (133, .getfield 109, 10, 32, 0, []), (136, .bipush 8, 0, 0, 8, []), (138, .iload 8, 0, 0, 0, []), (140, .imul, 0, 0, 0, []), (141, .iload 9, 0, 0, 0, []), (143, .iadd, 0, 0, 0, []), (144, .iaload, 0, 0, 0, []), (145, .iadd, 0, 0, 0, []), (146, .istore 5, 0, 0, 0, []), (148, .iinc 8 1, 0, 0, 1, []), (151, .goto (-126), 16, 0, 0, []), (154, .iconst 0, 0, 0, 0, []), (155, .istore 8, 0, 0, 0, []), (157, .iload 8, 0, 0, 0, []), (159, .aload_n 0, 0, 0, 0, []), (160, .getfield 75, 10, 21, 0, []), (163, .iload_n 1, 0, 0, 0, []), (164, .iaload, 0, 0, 0, []), (165, .if_icmp .ge 49, 119, 0, 0, []), (168, .iload 5, 0, 0, 0, []), (170, .aload_n 0, 0, 0, 0, []), (171, .getfield 105, 10, 31, 0, []), (174, .bipush 6, 0, 0, 6, []), (176, .iload_n 1, 0, 0, 0, []), (177, .imul, 0, 0, 0, []), (178, .iload 8, 0, 0, 0, []), (180, .iadd, 0, 0, 0, []), (181, .baload, 0, 0, 0, []), (182, .ifCond .ne 22, 114, 0, 0, []), (185, .iload 6, 0, 0, 0, []), (187, .iload 8, 0, 0, 0, []), (189, .ishr, 0, 0, 0, []), (190, .iconst 1, 0, 0, 1, []), (191, .iand, 0, 0, 0, []), (192, .ifCond .ne 12, 114, 0, 0, []), (195, .aload_n 0, 0, 0, 0, []), (196, .getfield 56, 10, 15, 0, []), (199, .iconst 1, 0, 0, 1, []), (200, .iaload, 0, 0, 0, []), (201, .goto 4, 115, 0, 0, []), (204, .iconst 0, 0, 0, 0, []), (205, .iadd, 0, 0, 0, []), (206, .istore 5, 0, 0, 0, []), (208, .iinc 8 1, 0, 0, 1, []), (211, .goto (-54), 87, 0, 0, []), (214, .iload 5, 0, 0, 0, []), (216, .ireturn, 0, 0, 0, [])]
-- 100 WhoIsWhoModel.offer(III)V
def am_c100 : List am_E := [(0, .aload_n 0, 0, 0, 0, []), (1, .getfield 112, 10, 33, 0, []), (4, .istore 4, 0, 0, 0, []), (6, .iload 4, 0, 0, 0, []), (8, .ifCond .le 76, 48, 0, 0, []), (11, .aload_n 0, 0, 0, 0, []), (12, .getfield 115, 10, 34, 0, []), (15, .iload 4, 0, 0, 0, []), (17, .iconst 1, 0, 0, 1, []), (18, .isub, 0, 0, 0, []), (19, .iaload, 0, 0, 0, []), (20, .iload_n 1, 0, 0, 0, []), (21, .if_icmp .le 63, 48, 0, 0, []), (24, .iload 4, 0, 0, 0, []), (26, .iconst 4, 0, 0, 4, []), (27, .if_icmp .ge 51, 46, 0, 0, []), (30, .aload_n 0, 0, 0, 0, []), (31, .getfield 115, 10, 34, 0, []), (34, .iload 4, 0, 0, 0, []), (36, .aload_n 0, 0, 0, 0, []), (37, .getfield 115, 10, 34, 0, []), (40, .iload 4, 0, 0, 0, []), (42, .iconst 1, 0, 0, 1, []), (43, .isub, 0, 0, 0, []), (44, .iaload, 0, 0, 0, []), (45, .iastore, 0, 0, 0, []), (46, .aload_n 0, 0, 0, 0, []), (47, .getfield 118, 10, 35, 0, []), (50, .iload 4, 0, 0, 0, []), (52, .aload_n 0, 0, 0, 0, []), (53, .getfield 118, 10, 35, 0, []), (56, .iload 4, 0, 0, 0, []), (58, .iconst 1, 0, 0, 1, []), (59, .isub, 0, 0, 0, []), (60, .iaload, 0, 0, 0, []), (61, .iastore, 0, 0, 0, []), (62, .aload_n 0, 0, 0, 0, []), (63, .getfield 121, 10, 36, 0, []), (66, .iload 4, 0, 0, 0, []), (68, .aload_n 0, 0, 0, 0, []), (69, .getfield 121, 10, 36, 0, []), (72, .iload 4, 0, 0, 0, []), (74, .iconst 1, 0, 0, 1, []), (75, .isub, 0, 0, 0, []), (76, .iaload, 0, 0, 0, []), (77, .iastore, 0, 0, 0, []), (78, .iinc 4 (-1), 0, 0, (-1), []), (81, .goto (-75), 3, 0, 0, []), (84, .iload 4, 0, 0, 0, []), (86, .aload_n 0, 0, 0, 0, []), (87, .getfield 56, 10, 15, 0, []), (90, .iconst 5, 0, 0, 5, []), (91, .iaload, 0, 0, 0, []), (92, .if_icmp .lt 4, 55, 0, 0, []), (95, .return_, 2, 0, 0, []), (96, .aload_n 0, 0, 0, 0, []), (97, .getfield 115, 10, 34, 0, []), (100, .iload 4, 0, 0, 0, []), (102, .iload_n 1, 0, 0, 0, []), (103, .iastore, 0, 0, 0, []), (104, .aload_n 0, 0, 0, 0, []), (105, .getfield 118, 10, 35, 0, []), (108, .iload 4, 0, 0, 0, []), (110, .iload_n 2, 0, 0, 0, []), (111, .iastore, 0, 0, 0, []), (112, .aload_n 0, 0, 0, 0, []), (113, .getfield 121, 10, 36, 0, []), (116, .iload 4, 0, 0, 0, []), (118, .iload_n 3, 0, 0, 0, []), (119, .iastore, 0, 0, 0, []), (120, .aload_n 0, 0, 0, 0, []), (121, .aload_n 0, 0, 0, 0, []), (122, .getfield 112, 10, 33, 0, []), (125, .aload_n 0, 0, 0, 0, []), (126, .getfield 56, 10, 15, 0, []), (129, .iconst 5, 0, 0, 5, []), (130, .iaload, 0, 0, 0, []), (131, .if_icmp .ge 12, 83, 0, 0, []), (134, .aload_n 0, 0, 0, 0, []), (135, .getfield 112, 10, 33, 0, []), (138, .iconst 1, 0, 0, 1, []), (139, .iadd, 0, 0, 0, []), (140, .goto 7, 85, 0, 0, []), (143, .aload_n 0, 0, 0, 0, []), (144, .getfield 112, 10, 33, 0, []), (147, .putfield 112, 10, 33, 0, []), (150, .return_, 2, 0, 0, [])]
-- 101 WhoIsWhoModel.copyWorld(II)V
def am_c101 : List am_E := [(0, .aload_n 0, 0, 0, 0, []), (1, .getfield 72, 10, 20, 0, []), (4, .iload_n 2, 0, 0, 0, []), (5, .aload_n 0, 0, 0, 0, []), (6, .getfield 72, 10, 20, 0, []), (9, .iload_n 1, 0, 0, 0, []), (10, .iaload, 0, 0, 0, []), (11, .iastore, 0, 0, 0, []), (12, .aload_n 0, 0, 0, 0, []), (13, .getfield 75, 10, 21, 0, []), (16, .iload_n 2, 0, 0, 0, []), (17, .aload_n 0, 0, 0, 0, []), (18, .getfield 75, 10, 21, 0, []), (21, .iload_n 1, 0, 0, 0, []), (22, .iaload, 0, 0, 0, []), (23, .iastore, 0, 0, 0, []), (24, .iconst 0, 0, 0, 0, []), (25, .istore_n 3, 0, 0, 0, []), (26, .iload_n 3, 0, 0, 0, []), (27, .bipush 48, 0, 0, 48, []), (29, .if_icmp .ge 31, 39, 0, 0, []), (32, .aload_n 0, 0, 0, 0, []), (33, .getfield 78, 10, 22, 0, []), (36, .bipush 48, 0, 0, 48, []), (38, .iload_n 2, 0, 0, 0, []), (39, .imul, 0, 0, 0, []), (40, .iload_n 3, 0, 0, 0, []), (41, .iadd, 0, 0, 0, []), (42, .aload_n 0, 0, 0, 0, []), (43, .getfield 78, 10, 22, 0, []), (46, .bipush 48, 0, 0, 48, []), (48, .iload_n 1, 0, 0, 0, []), (49, .imul, 0, 0, 0, []), (50, .iload_n 3, 0, 0, 0, []), (51, .iadd, 0, 0, 0, []), (52, .iaload, 0, 0, 0, []), (53, .iastore, 0, 0, 0, []), (54, .iinc 3 1, 0, 0, 1, []), (57, .goto (-31), 18, 0, 0, []), (60, .iconst 0, 0, 0, 0, []), (61, .istore_n 3, 0, 0, 0, []), (62, .iload_n 3, 0, 0, 0, []), (63, .bipush 6, 0, 0, 6, []), (65, .if_icmp .ge 151, 130, 0, 0, []), (68, .bipush 6, 0, 0, 6, []), (70, .iload_n 1, 0, 0, 0, []), (71, .imul, 0, 0, 0, []), (72, .iload_n 3, 0, 0, 0, []), (73, .iadd, 0, 0, 0, []), (74, .istore 4, 0, 0, 0, []), (76, .bipush 6, 0, 0, 6, []), (78, .iload_n 2, 0, 0, 0, []), (79, .imul, 0, 0, 0, []), (80, .iload_n 3, 0, 0, 0, []), (81, .iadd, 0, 0, 0, []), (82, .istore 5, 0, 0, 0, []), (84, .aload_n 0, 0, 0, 0, []), (85, .getfield 81, 10, 23, 0, []), (88, .iload 5, 0, 0, 0, []), (90, .aload_n 0, 0, 0, 0, []), (91, .getfield 81, 10, 23, 0, []), (94, .iload 4, 0, 0, 0, []), (96, .iaload, 0, 0, 0, []), (97, .iastore, 0, 0, 0, []), (98, .aload_n 0, 0, 0, 0, []), (99, .getfield 84, 10, 24, 0, []), (102, .iload 5, 0, 0, 0, []), (104, .aload_n 0, 0, 0, 0, []), (105, .getfield 84, 10, 24, 0, []), (108, .iload 4, 0, 0, 0, []), (110, .iaload, 0, 0, 0, []), (111, .iastore, 0, 0, 0, []), (112, .aload_n 0, 0, 0, 0, []), (113, .getfield 87, 10, 25, 0, []), (116, .iload 5, 0, 0, 0, []), (118, .aload_n 0, 0, 0, 0, []), (119, .getfield 87, 10, 25, 0, []), (122, .iload 4, 0, 0, 0, []), (124, .iaload, 0, 0, 0, []), (125, .iastore, 0, 0, 0, []), (126, .aload_n 0, 0, 0, 0, []), (127, .getfield 90, 10, 26, 0, []), (130, .iload 5, 0, 0, 0, []), (132, .aload_n 0, 0, 0, 0, []), (133, .getfield 90, 10, 26, 0, []), (136, .iload 4, 0, 0, 0, []), (138, .iaload, 0, 0, 0, []), (139, .iastore, 0, 0, 0, []), (140, .aload_n 0, 0, 0, 0, []), (141, .getfield 93, 10, 27, 0, []), (144, .iload 5, 0, 0, 0, []), (146, .aload_n 0, 0, 0, 0, []), (147, .getfield 93, 10, 27, 0, []), (150, .iload 4, 0, 0, 0, []), (152, .iaload, 0, 0, 0, []), (153, .iastore, 0, 0, 0, []), (154, .aload_n 0, 0, 0, 0, []), (155, .getfield 96, 10, 28, 0, []), (158, .iload 5, 0, 0, 0, []), (160, .aload_n 0, 0, 0, 0, []), (161, .getfield 96, 10, 28, 0, []), (164, .iload 4, 0, 0, 0, []), (166, .iaload, 0, 0, 0, []), (167, .iastore, 0, 0, 0, []), (168, .aload_n 0, 0, 0, 0, []), (169, .getfield 99, 10, 29, 0, []), (172, .iload 5, 0, 0, 0, []), (174, .aload_n 0, 0, 0, 0, []), (175, .getfield 99, 10, 29, 0, []), (178, .iload 4, 0, 0, 0, []), (180, .iaload, 0, 0, 0, []), (181, .iastore, 0, 0, 0, []), (182, .aload_n 0, 0, 0, 0, []), (183, .getfield 102, 10, 30, 0, []), (186, .iload 5, 0, 0, 0, []), (188, .aload_n 0, 0, 0, 0, []), (189, .getfield 102, 10, 30, 0, []), (192, .iload 4, 0, 0, 0, []), (194, .iaload, 0, 0, 0, []), (195, .iastore, 0, 0, 0, []), (196, .aload_n 0, 0, 0, 0, []), (197, .getfield 105, 10, 31, 0, []), (200, .iload 5, 0, 0, 0, []), (202, .aload_n 0, 0, 0, 0, []), (203, .getfield 105, 10, 31, 0, []), (206, .iload 4, 0, 0, 0, []), (208, .baload, 0, 0, 0, []), (209, .bastore, 0, 0, 0, []), (210, .iinc 3 1, 0, 0, 1, []), (213, .goto (-151), 41, 0, 0, []), (216, .return_, 2, 0, 0, [])]
-- 102 WhoIsWhoModel.cut(II)I
def am_c102 : List am_E := [(0, .iload_n 1, 0, 0, 0, []), (1, .iload_n 2, 0, 0, 0, []), (2, .idiv, 0, 0, 0, []), (3, .istore_n 3, 0, 0, 0, []), (4, .iload_n 3, 0, 0, 0, []), (5, .iload_n 2, 0, 0, 0, []), (6, .imul, 0, 0, 0, []), (7, .iload_n 1, 0, 0, 0, []), (8, .if_icmp .le 9, 13, 0, 0, []), (11, .iload_n 3, 0, 0, 0, []), (12, .iconst 1, 0, 0, 1, []), (13, .isub, 0, 0, 0, []), (14, .goto 4, 14, 0, 0, []), (17, .iload_n 3, 0, 0, 0, []), (18, .ireturn, 0, 0, 0, [])]
-- 103 WhoIsWhoModel.begin(III)V
def am_c103 : List am_E := [(0, .aload_n 0, 0, 0, 0, []), (1, .getfield 81, 10, 23, 0, []), (4, .iload_n 1, 0, 0, 0, []), (5, .aload_n 0, 0, 0, 0, []), (6, .iload_n 2, 0, 0, 0, []), (7, .iload_n 3, 0, 0, 0, []), (8, .invokevirtual 142, 94, 2, 0, []), (11, .iastore, 0, 0, 0, []), (12, .aload_n 0, 0, 0, 0, []), (13, .getfield 84, 10, 24, 0, []), (16, .iload_n 1, 0, 0, 0, []), (17, .aload_n 0, 0, 0, 0, []), (18, .iload_n 2, 0, 0, 0, []), (19, .iload_n 3, 0, 0, 0, []), (20, .invokevirtual 150, 95, 2, 0, []), (23, .iastore, 0, 0, 0, []), (24, .aload_n 0, 0, 0, 0, []), (25, .getfield 87, 10, 25, 0, []), (28, .iload_n 1, 0, 0, 0, []), (29, .iconst 0, 0, 0, 0, []), (30, .iastore, 0, 0, 0, []), (31, .aload_n 0, 0, 0, 0, []), (32, .getfield 90, 10, 26, 0, []), (35, .iload_n 1, 0, 0, 0, []), (36, .iconst 0, 0, 0, 0, []), (37, .iastore, 0, 0, 0, []), (38, .aload_n 0, 0, 0, 0, []), (39, .getfield 93, 10, 27, 0, []), (42, .iload_n 1, 0, 0, 0, []), (43, .aload_n 0, 0, 0, 0, []), (44, .getfield 29, 10, 6, 0, []), (47, .iload_n 2, 0, 0, 0, []), (48, .iaload, 0, 0, 0, []), (49, .iastore, 0, 0, 0, []), (50, .aload_n 0, 0, 0, 0, []), (51, .getfield 96, 10, 28, 0, []), (54, .iload_n 1, 0, 0, 0, []), (55, .iconst 1, 0, 0, 1, []), (56, .iastore, 0, 0, 0, []), (57, .aload_n 0, 0, 0, 0, []), (58, .getfield 99, 10, 29, 0, []), (61, .iload_n 1, 0, 0, 0, []), (62, .iconst 0, 0, 0, 0, []), (63, .iastore, 0, 0, 0, []), (64, .aload_n 0, 0, 0, 0, []), (65, .getfield 102, 10, 30, 0, []), (68, .iload_n 1, 0, 0, 0, []), (69, .aload_n 0, 0, 0, 0, []), (70, .getfield 41, 10, 10, 0, []), (73, .iconst 4, 0, 0, 4, []), (74, .iload_n 2, 0, 0, 0, []), (75, .imul, 0, 0, 0, []), (76, .iload_n 3, 0, 0, 0, []), (77, .iadd, 0, 0, 0, []), (78, .iaload, 0, 0, 0, []), (79, .iastore, 0, 0, 0, []), (80, .aload_n 0, 0, 0, 0, []), (81, .getfield 105, 10, 31, 0, []), (84, .iload_n 1, 0, 0, 0, []), (85, .iconst 0, 0, 0, 0, []), (86, .bastore, 0, 0, 0, []), (87, .return_, 2, 0, 0, [])]
-- 104 WhoIsWhoModel.goOn(III)V
def am_c104 : List am_E := [(0, .aload_n 0, 0, 0, 0, []), (1, .getfield 29, 10, 6, 0, []), (4, .iload_n 2, 0, 0, 0, []), (5, .iaload, 0, 0, 0, []), (6, .aload_n 0, 0, 0, 0, []), (7, .getfield 93, 10, 27, 0, []), (10, .iload_n 1, 0, 0, 0, []), (11, .iaload, 0, 0, 0, []), (12, .isub, 0, 0, 0, []), (13, .istore 4, 0, 0, 0, []), (15, .iload 4, 0, 0, 0, []), (17, .ifCond .le 53, 44, 0, 0, []), (20, .aload_n 0, 0, 0, 0, []), (21, .getfield 87, 10, 25, 0, []), (24, .iload_n 1, 0, 0, 0, []), (25, .aload_n 0, 0, 0, 0, []), (26, .aload_n 0, 0, 0, 0, []), (27, .iload_n 2, 0, 0, 0, []), (28, .iload_n 3, 0, 0, 0, []), (29, .invokevirtual 142, 94, 2, 0, []), (32, .aload_n 0, 0, 0, 0, []), (33, .getfield 81, 10, 23, 0, []), (36, .iload_n 1, 0, 0, 0, []), (37, .iaload, 0, 0, 0, []), (38, .isub, 0, 0, 0, []), (39, .iload 4, 0, 0, 0, []), (41, .invokevirtual 157, 102, 2, 0, []), (44, .iastore, 0, 0, 0, []), (45, .aload_n 0, 0, 0, 0, []), (46, .getfield 90, 10, 26, 0, []), (49, .iload_n 1, 0, 0, 0, []), (50, .aload_n 0, 0, 0, 0, []), (51, .aload_n 0, 0, 0, 0, []), (52, .iload_n 2, 0, 0, 0, []), (53, .iload_n 3, 0, 0, 0, []), (54, .invokevirtual 150, 95, 2, 0, []), (57, .aload_n 0, 0, 0, 0, []), (58, .getfield 84, 10, 24, 0, []), (61, .iload_n 1, 0, 0, 0, []), (62, .iaload, 0, 0, 0, []), (63, .isub, 0, 0, 0, []), (64, .iload 4, 0, 0, 0, []), (66, .invokevirtual 157, 102, 2, 0, []), (69, .iastore, 0, 0, 0, []), (70, .aload_n 0, 0, 0, 0, []), (71, .getfield 81, 10, 23, 0, []), (74, .iload_n 1, 0, 0, 0, []), (75, .aload_n 0, 0, 0, 0, []), (76, .iload_n 2, 0, 0, 0, []), (77, .iload_n 3, 0, 0, 0, []), (78, .invokevirtual 142, 94, 2, 0, []), (81, .iastore, 0, 0, 0, []), (82, .aload_n 0, 0, 0, 0, []), (83, .getfield 84, 10, 24, 0, []), (86, .iload_n 1, 0, 0, 0, []), (87, .aload_n 0, 0, 0, 0, []), (88, .iload_n 2, 0, 0, 0, []), (89, .iload_n 3, 0, 0, 0, []), (90, .invokevirtual 150, 95, 2, 0, []), (93, .iastore, 0, 0, 0, []), (94, .aload_n 0, 0, 0, 0, []), (95, .getfield 93, 10, 27, 0, []), (98, .iload_n 1, 0, 0, 0, []), (99, .aload_n 0, 0, 0, 0, []), (100, .getfield 29, 10, 6, 0, []), (103, .iload_n 2, 0, 0, 0, []), (104, .iaload, 0, 0, 0, []), (105, .iastore, 0, 0, 0, []), (106, .aload_n 0, 0, 0, 0, []), (107, .getfield 96, 10, 28, 0, []), (110, .iload_n 1, 0, 0, 0, []), (111, .dup2, 0, 0, 0, []), (112, .iaload, 0, 0, 0, []), (113, .iconst 1, 0, 0, 1, []), (114, .iadd, 0, 0, 0, []), (115, .iastore, 0, 0, 0, []), (116, .aload_n 0, 0, 0, 0, []), (117, .getfield 99, 10, 29, 0, []), (120, .iload_n 1, 0, 0, 0, []), (121, .iconst 0, 0, 0, 0, []), (122, .iastore, 0, 0, 0, []), (123, .aload_n 0, 0, 0, 0, []), (124, .getfield 102, 10, 30, 0, []), (127, .iload_n 1, 0, 0, 0, []), (128, .aload_n 0, 0, 0, 0, []), (129, .getfield 102, 10, 30, 0, []), (132, .iload_n 1, 0, 0, 0, []), (133, .iaload, 0, 0, 0, []), (134, .ifCond .ne 16, 98, 0, 0, []), (137, .aload_n 0, 0, 0, 0, []), (138, .getfield 41, 10, 10, 0, []), (141, .iconst 4, 0, 0, 4, []), (142, .iload_n 2, 0, 0, 0, []), (143, .imul, 0, 0, 0, []), (144, .iload_n 3, 0, 0, 0, []), (145, .iadd, 0, 0, 0, []), (146, .iaload, 0, 0, 0, []), (147, .goto 9, 102, 0, 0, []), (150, .aload_n 0, 0, 0, 0, []), (151, .getfield 102, 10, 30, 0, []), (154, .iload_n 1, 0, 0, 0, []), (155, .iaload, 0, 0, 0, []), (156, .iastore, 0, 0, 0, []), (157, .return_, 2, 0, 0, [])]
-- 105 WhoIsWhoModel.apply(III)V
def am_c105 : List am_E := [(0, .aload_n 0, 0, 0, 0, []), (1, .getfield 32, 10, 7, 0, []), (4, .iload_n 2, 0, 0, 0, []), (5, .iaload, 0, 0, 0, []), (6, .istore 4, 0, 0, 0, []), (8, .aload_n 0, 0, 0, 0, []), (9, .getfield 75, 10, 21, 0, []), (12, .iload_n 1, 0, 0, 0, []), (13, .iaload, 0, 0, 0, []), (14, .istore 5, 0, 0, 0, []), (16, .iconst 0, 0, 0, 0, []), (17, .istore 6, 0, 0, 0, []), (19, .iconst 0, 0, 0, 0, []), (20, .istore 7, 0, 0, 0, []), (22, .iload 7, 0, 0, 0, []), (24, .iload 4, 0, 0, 0, []), (26, .if_icmp .ge 137, 95, 0, 0, []), (29, .aload_n 0, 0, 0, 0, []), (30, .iload_n 3, 0, 0, 0, []), (31, .iload 4, 0, 0, 0, []), (33, .iload 7, 0, 0, 0, []), (35, .invokevirtual 153, 98, 3, 0, []), (38, .istore 8, 0, 0, 0, []), (40, .iload 8, 0, 0, 0, []), (42, .bipush 7, 0, 0, 7, []), (44, .if_icmp .ne 7, 28, 0, 0, []), (47, .iconst (-1), 0, 0, (-1), []), (48, .goto 21, 37, 0, 0, []), (51, .iload 8, 0, 0, 0, []), (53, .bipush 6, 0, 0, 6, []), (55, .if_icmp .ne 12, 36, 0, 0, []), (58, .aload_n 0, 0, 0, 0, []), (59, .getfield 75, 10, 21, 0, []), (62, .iload_n 1, 0, 0, 0, []), (63, .iaload, 0, 0, 0, []), (64, .goto 5, 37, 0, 0, []), (67, .iload 8, 0, 0, 0, []), (69, .istore 9, 0, 0, 0, []), (71, .aload_n 0, 0, 0, 0, []), (72, .getfield 78, 10, 22, 0, []), (75, .bipush 48, 0, 0, 48, []), (77, .iload_n 1, 0, 0, 0, []), (78, .imul, 0, 0, 0, []), (79, .iconst 4, 0, 0, 4, []), (80, .iload_n 2, 0, 0, 0, []), (81, .imul, 0, 0, 0, []), (82, .iadd, 0, 0, 0, []), (83, .iload 7, 0, 0, 0, []), (85, .iadd, 0, 0, 0, []), (86, .iload 9, 0, 0, 0, []), (88, .iastore, 0, 0, 0, []), (89, .iload 8, 0, 0, 0, []), (91, .bipush 6, 0, 0, 6, []), (93, .if_icmp .ne 34, 75, 0, 0, []), (96, .aload_n 0, 0, 0, 0, []), (97, .bipush 6, 0, 0, 6, []), (99, .iload_n 1, 0, 0, 0, []), (100, .imul, 0, 0, 0, []), (101, .aload_n 0, 0, 0, 0, []), (102, .getfield 75, 10, 21, 0, []), (105, .iload_n 1, 0, 0, 0, []), (106, .iaload, 0, 0, 0, []), (107, .iadd, 0, 0, 0, []), (108, .iload_n 2, 0, 0, 0, []), (109, .iload 7, 0, 0, 0, []), (111, .invokevirtual 160, 103, 3, 0, []), (114, .aload_n 0, 0, 0, 0, []), (115, .getfield 75, 10, 21, 0, []), (118, .iload_n 1, 0, 0, 0, []), (119, .dup2, 0, 0, 0, []), (120, .iaload, 0, 0, 0, []), (121, .iconst 1, 0, 0, 1, []), (122, .iadd, 0, 0, 0, []), (123, .iastore, 0, 0, 0, []), (124, .goto 33, 93, 0, 0, []), (127, .iload 8, 0, 0, 0, []), (129, .bipush 6, 0, 0, 6, []), (131, .if_icmp .ge 26, 93, 0, 0, []), (134, .aload_n 0, 0, 0, 0, []), (135, .bipush 6, 0, 0, 6, []), (137, .iload_n 1, 0, 0, 0, []), (138, .imul, 0, 0, 0, []), (139, .iload 8, 0, 0, 0, []), (141, .iadd, 0, 0, 0, []), (142, .iload_n 2, 0, 0, 0, []), (143, .iload 7, 0, 0, 0, []), (145, .invokevirtual 164, 104, 3, 0, []), (148, .iload 6, 0, 0, 0, []), (150, .iconst 1, 0, 0, 1, []), (151, .iload 8, 0, 0, 0, []), (153, .ishl, 0, 0, 0, []), (154, .ior, 0, 0, 0, []), (155, .istore 6, 0, 0, 0, []), (157, .iinc 7 1, 0, 0, 1, []), (160, .goto (-138), 14, 0, 0, []), (163, .iconst 0, 0, 0, 0, []), (164, .istore 7, 0, 0, 0, []), (166, .iload 7, 0, 0, 0, []), (168, .iload 5, 0, 0, 0, []), (170, .if_icmp .ge 81, 145, 0, 0, []), (173, .bipush 6, 0, 0, 6, []), (175, .iload_n 1, 0, 0, 0, []), (176, .imul, 0, 0, 0, []), (177, .iload 7, 0, 0, 0, []), (179, .iadd, 0, 0, 0, []), (180, .istore 8, 0, 0, 0, []), (182, .aload_n 0, 0, 0, 0, []), (183, .getfield 105, 10, 31, 0, []), (186, .iload 8, 0, 0, 0, []), (188, .baload, 0, 0, 0, []), (189, .ifCond .ne 56, 143, 0, 0, []), (192, .iload 6, 0, 0, 0, []), (194, .iload 7, 0, 0, 0, []), (196, .ishr, 0, 0, 0, []), (197, .iconst 1, 0, 0, 1, []), (198, .iand, 0, 0, 0, []), (199, .iconst 1, 0, 0, 1, []), (200, .if_icmp .ne 6, 119, 0, 0, []), (203, .goto 42, 143, 0, 0, []), (206, .aload_n 0, 0, 0, 0, []), (207, .getfield 99, 10, 29, 0, []), (210, .iload 8, 0, 0, 0, []), (212, .dup2, 0, 0, 0, []), (213, .iaload, 0, 0, 0, []), (214, .iconst 1, 0, 0, 1, []), (215, .iadd, 0, 0, 0, []), (216, .iastore, 0, 0, 0, []), (217, .aload_n 0, 0, 0, 0, []), (218, .getfield 105, 10, 31, 0, []), (221, .iload 8, 0, 0, 0, []), (223, .aload_n 0, 0, 0, 0, []), (224, .getfield 99, 10, 29, 0, []), (227, .iload 8, 0, 0, 0, []), (229, .iaload, 0, 0, 0, []), (230, .aload_n 0, 0, 0, 0, []), (231, .getfield 56, 10, 15, 0, []), (234, .iconst 4, 0, 0, 4, []), (235, .iaload, 0, 0, 0, []), (236, .if_icmp .lt 7, 141, 0, 0, []), (239, .iconst 1, 0, 0, 1, []), (240, .goto 4, 142, 0, 0, []), (243, .iconst 0, 0, 0, 0, []), (244, .bastore, 0, 0, 0, []), (245, .iinc 7 1, 0, 0, 1, []), (248, .goto (-82), 97, 0, 0, []), (251, .return_, 2, 0, 0, [])]
-- 106 WhoIsWhoModel.takeScan(I)V
def am_c106 : List am_E := [(0, .aload_n 0, 0, 0, 0, []), (1, .iconst 0, 0, 0, 0, []), (2, .putfield 112, 10, 33, 0, []), (5, .iconst 1, 0, 0, 1, []), (6, .iconst 3, 0, 0, 3, []), (7, .aload_n 0, 0, 0, 0, []), (8, .getfield 32, 10, 7, 0, []), (11, .iload_n 1, 0, 0, 0, []), (12, .iaload, 0, 0, 0, []), (13, .imul, 0, 0, 0, []), (14, .ishl, 0, 0, 0, []), (15, .istore_n 2, 0, 0, 0, []), (16, .iconst 0, 0, 0, 0, []), (17, .istore_n 3, 0, 0, 0, []), (18, .iload_n 3, 0, 0, 0, []), (19, .aload_n 0, 0, 0, 0, []), (20, .getfield 66, 10, 18, 0, []), (23, .if_icmp .ge 73, 54, 0, 0, []), (26, .aload_n 0, 0, 0, 0, []), (27, .getfield 69, 10, 19, 0, []), (30, .iload_n 3, 0, 0, 0, []), (31, .iadd, 0, 0, 0, []), (32, .istore 4, 0, 0, 0, []), (34, .aload_n 0, 0, 0, 0, []), (35, .iload 4, 0, 0, 0, []), (37, .iload_n 1, 0, 0, 0, []), (38, .invokevirtual 167, 97, 2, 0, []), (41, .iconst 0, 0, 0, 0, []), (42, .istore 5, 0, 0, 0, []), (44, .iload 5, 0, 0, 0, []), (46, .iload_n 2, 0, 0, 0, []), (47, .if_icmp .ge 43, 52, 0, 0, []), (50, .aload_n 0, 0, 0, 0, []), (51, .iload 4, 0, 0, 0, []), (53, .iload_n 1, 0, 0, 0, []), (54, .iload 5, 0, 0, 0, []), (56, .invokevirtual 171, 99, 3, 0, []), (59, .istore 6, 0, 0, 0, []), (61, .iload 6, 0, 0, 0, []), (63, .ifCond .lt 21, 50, 0, 0, []), (66, .aload_n 0, 0, 0, 0, []), (67, .aload_n 0, 0, 0, 0, []), (68, .getfield 72, 10, 20, 0, []), (71, .iload 4, 0, 0, 0, []), (73, .iaload, 0, 0, 0, []), (74, .iload 6, 0, 0, 0, []), (76, .iadd, 0, 0, 0, []), (77, .iload 4, 0, 0, 0, []), (79, .iload 5, 0, 0, 0, []), (81, .invokevirtual 174, 100, 3, 0, []), (84, .iinc 5 1, 0, 0, 1, []), (87, .goto (-43), 29, 0, 0, []), (90, .iinc 3 1, 0, 0, 1, []), (93, .goto (-75), 14, 0, 0, []), (96, .iconst 4, 0, 0, 4, []), (97, .aload_n 0, 0, 0, 0, []), (98, .getfield 69, 10, 19, 0, []), (101, .isub, 0, 0, 0, []), (102, .istore_n 3, 0, 0, 0, []), (103, .iconst 0, 0, 0, 0, []), (104, .istore 4, 0, 0, 0, []), (106, .iload 4, 0, 0, 0, []), (108, .aload_n 0, 0, 0, 0, []), (109, .getfield 112, 10, 33, 0, []), (112, .if_icmp .ge 56, 96, 0, 0, []), (115, .aload_n 0, 0, 0, 0, []), (116, .aload_n 0, 0, 0, 0, []), (117, .getfield 118, 10, 35, 0, []), (120, .iload 4, 0, 0, 0, []), (122, .iaload, 0, 0, 0, []), (123, .iload_n 3, 0, 0, 0, []), (124, .iload 4, 0, 0, 0, []), (126, .iadd, 0, 0, 0, []), (127, .invokevirtual 177, 101, 2, 0, []), (130, .aload_n 0, 0, 0, 0, []), (131, .getfield 72, 10, 20, 0, []), (134, .iload_n 3, 0, 0, 0, []), (135, .iload 4, 0, 0, 0, []), (137, .iadd, 0, 0, 0, []), (138, .aload_n 0, 0, 0, 0, []), (139, .getfield 115, 10, 34, 0, []), (142, .iload 4, 0, 0, 0, []), (144, .iaload, 0, 0, 0, []), (145, .iastore, 0, 0, 0, []), (146, .aload_n 0, 0, 0, 0, []), (147, .iload_n 3, 0, 0, 0, []), (148, .iload 4, 0, 0, 0, []), (150, .iadd, 0, 0, 0, []), (151, .iload_n 1, 0, 0, 0, []), (152, .aload_n 0, 0, 0, 0, []), (153, .getfield 121, 10, 36, 0, []), (156, .iload 4, 0, 0, 0, []), (158, .iaload, 0, 0, 0, []), (159, .invokevirtual 180, 105, 3, 0, []), (162, .iinc 4 1, 0, 0, 1, []), (165, .goto (-59), 61, 0, 0, []), (168, .aload_n 0, 0, 0, 0, []), (169, .aload_n 0, 0, 0, 0, []), (170, .getfield 112, 10, 33, 0, []), (173, .putfield 66, 10, 18, 0, []), (176, .aload_n 0, 0, 0, 0, []), (177, .iload_n 3, 0, 0, 0, []), (178, .putfield 69, 10, 19, 0, []), (181, .return_, 2, 0, 0, [])]
-- 107 WhoIsWhoModel.renew()V
def am_c107 : List am_E := [(0, .aload_n 0, 0, 0, 0, []), (1, .getfield 59, 10, 16, 0, []), (4, .ifCond .ne 4, 4, 0, 0, []), (7, .return_, 2, 0, 0, []), (8, .aload_n 0, 0, 0, 0, []), (9, .iconst 0, 0, 0, 0, []), (10, .putfield 59, 10, 16, 0, []), (13, .aload_n 0, 0, 0, 0, []), (14, .invokevirtual 183, 93, 0, 0, []), (17, .aload_n 0, 0, 0, 0, []), (18, .iconst 1, 0, 0, 1, []), (19, .putfield 66, 10, 18, 0, []), (22, .aload_n 0, 0, 0, 0, []), (23, .iconst 0, 0, 0, 0, []), (24, .putfield 69, 10, 19, 0, []), (27, .aload_n 0, 0, 0, 0, []), (28, .getfield 72, 10, 20, 0, []), (31, .iconst 0, 0, 0, 0, []), (32, .iconst 0, 0, 0, 0, []), (33, .iastore, 0, 0, 0, []), (34, .aload_n 0, 0, 0, 0, []), (35, .getfield 75, 10, 21, 0, []), (38, .iconst 0, 0, 0, 0, []), (39, .iconst 0, 0, 0, 0, []), (40, .iastore, 0, 0, 0, []), (41, .iconst 0, 0, 0, 0, []), (42, .istore_n 1, 0, 0, 0, []), (43, .iload_n 1, 0, 0, 0, []), (44, .aload_n 0, 0, 0, 0, []), (45, .getfield 13, 10, 1, 0, []), (48, .if_icmp .ge 19, 39, 0, 0, []), (51, .aload_n 0, 0, 0, 0, []), (52, .aload_n 0, 0, 0, 0, []), (53, .getfield 63, 10, 17, 0, []), (56, .iload_n 1, 0, 0, 0, []), (57, .iaload, 0, 0, 0, []), (58, .invokevirtual 186, 106, 1, 0, []), (61, .iinc 1 1, 0, 0, 1, []), (64, .goto (-21), 27, 0, 0, []), (67, .return_, 2, 0, 0, [])]
-- 108 WhoIsWhoModel.isWorld(I)Z
def am_c108 : List am_E := [(0, .aload_n 0, 0, 0, 0, []), (1, .invokevirtual 190, 107, 0, 0, []), (4, .aload_n 0, 0, 0, 0, []), (5, .iload_n 1, 0, 0, 0, []), (6, .iconst 0, 0, 0, 0, []), (7, .aload_n 0, 0, 0, 0, []), (8, .getfield 66, 10, 18, 0, []), (11, .iconst 1, 0, 0, 1, []), (12, .isub, 0, 0, 0, []), (13, .invokevirtual 130, 82, 3, 0, []), (16, .ireturn, 1, 0, 0, [])]
-- 109 WhoIsWhoModel.isTrack(II)Z
def am_c109 : List am_E := [(0, .aload_n 0, 0, 0, 0, []), (1, .iload_n 1, 0, 0, 0, []), (2, .invokevirtual 193, 108, 1, 0, []), (5, .ifCond .eq 29, 20, 0, 0, []), (8, .aload_n 0, 0, 0, 0, []), (9, .iload_n 2, 0, 0, 0, []), (10, .iconst 0, 0, 0, 0, []), (11, .aload_n 0, 0, 0, 0, []), (12, .getfield 75, 10, 21, 0, []), (15, .aload_n 0, 0, 0, 0, []), (16, .getfield 69, 10, 19, 0, []), (19, .iload_n 1, 0, 0, 0, []), (20, .iadd, 0, 0, 0, []), (21, .iaload, 0, 0, 0, []), (22, .iconst 1, 0, 0, 1, []), (23, .isub, 0, 0, 0, []), (24, .invokevirtual 130, 82, 3, 0, []), (27, .ifCond .eq 7, 20, 0, 0, []), (30, .iconst 1, 0, 0, 1, []), (31, .goto 4, 21, 0, 0, []), (34, .iconst 0, 0, 0, 0, []), (35, .ireturn, 1, 0, 0, [])]
-- 110 WhoIsWhoModel.worlds()I
def am_c110 : List am_E := [(0, .aload_n 0, 0, 0, 0, []), (1, .invokevirtual 190, 107, 0, 0, []), (4, .aload_n 0, 0, 0, 0, []), (5, .getfield 66, 10, 18, 0, []), (8, .ireturn, 0, 0, 0, [])]
-- 111 WhoIsWhoModel.cost(I)I
def am_c111 : List am_E := [(0, .aload_n 0, 0, 0, 0, []), (1, .iload_n 1, 0, 0, 0, []), (2, .invokevirtual 193, 108, 1, 0, []), (5, .ifCond .eq 17, 12, 0, 0, []), (8, .aload_n 0, 0, 0, 0, []), (9, .getfield 72, 10, 20, 0, []), (12, .aload_n 0, 0, 0, 0, []), (13, .getfield 69, 10, 19, 0, []), (16, .iload_n 1, 0, 0, 0, []), (17, .iadd, 0, 0, 0, []), (18, .iaload, 0, 0, 0, []), (19, .goto 5, 13, 0, 0, []), (22, .ldc 196, 0, 0, (-2147483648), []), (24, .ireturn, 0, 0, 0, [])]
-- 112 WhoIsWhoModel.gap(I)I
def am_c112 : List am_E := [(0, .aload_n 0, 0, 0, 0, []), (1, .iload_n 1, 0, 0, 0, []), (2, .invokevirtual 193, 108, 1, 0, []), (5, .ifCond .eq 27, 18, 0, 0, []), (8, .aload_n 0, 0, 0, 0, []), (9, .getfield 72, 10, 20, 0, []), (12, .aload_n 0, 0, 0, 0, []), (13, .getfield 69, 10, 19, 0, []), (16, .iload_n 1, 0, 0, 0, []), (17, .iadd, 0, 0, 0, []), (18, .iaload, 0, 0, 0, []), (19, .aload_n 0, 0, 0, 0, []), (20, .getfield 72, 10, 20, 0, []), (23, .aload_n 0, 0, 0, 0, []), (24, .getfield 69, 10, 19, 0, []), (27, .iaload, 0, 0, 0, []), (28, .isub, 0, 0, 0, []), (29, .goto 4, 19, 0, 0, []), (32, .iconst (-1), 0, 0, (-1), []), (33, .ireturn, 0, 0, 0, [])]
-- 113 WhoIsWhoModel.tracks(I)I
def am_c113 : List am_E := [(0, .aload_n 0, 0, 0, 0, []), (1, .iload_n 1, 0, 0, 0, []), (2, .invokevirtual 193, 108, 1, 0, []), (5, .ifCond .eq 17, 12, 0, 0, []), (8, .aload_n 0, 0, 0, 0, []), (9, .getfield 75, 10, 21, 0, []), (12, .aload_n 0, 0, 0, 0, []), (13, .getfield 69, 10, 19, 0, []), (16, .iload_n 1, 0, 0, 0, []), (17, .iadd, 0, 0, 0, []), (18, .iaload, 0, 0, 0, []), (19, .goto 4, 13, 0, 0, []), (22, .iconst (-1), 0, 0, (-1), []), (23, .ireturn, 0, 0, 0, [])]
-- 114 WhoIsWhoModel.track(III)I
def am_c114 : List am_E := [(0, .aload_n 0, 0, 0, 0, []), (1, .iload_n 1, 0, 0, 0, []), (2, .iload_n 2, 0, 0, 0, []), (3, .invokevirtual 197, 109, 2, 0, []), (6, .ifCond .ne 6, 7, 0, 0, []), (9, .ldc 196, 0, 0, (-2147483648), []), (11, .ireturn, 0, 0, 0, []), (12, .bipush 6, 0, 0, 6, []), (14, .aload_n 0, 0, 0, 0, []), (15, .getfield 69, 10, 19, 0, []), (18, .iload_n 1, 0, 0, 0, []), (19, .iadd, 0, 0, 0, []), (20, .imul, 0, 0, 0, []), (21, .iload_n 2, 0, 0, 0, []), (22, .iadd, 0, 0, 0, []), (23, .istore 4, 0, 0, 0, []), (25, .iload_n 3, 0, 0, 0, []), (26, .tableswitch 151 0 9 #[54, 62, 70, 78, 86, 94, 102, 110, 118, 134], 77, 0, 0, [18, 23, 28, 33, 38, 43, 48, 53, 58, 67]), (80, .aload_n 0, 0, 0, 0, []), (81, .getfield 81, 10, 23, 0, []), (84, .iload 4, 0, 0, 0, []), (86, .iaload, 0, 0, 0, []), (87, .ireturn, 0, 0, 0, []), (88, .aload_n 0, 0, 0, 0, []), (89, .getfield 84, 10, 24, 0, []), (92, .iload 4, 0, 0, 0, []), (94, .iaload, 0, 0, 0, []), (95, .ireturn, 0, 0, 0, []), (96, .aload_n 0, 0, 0, 0, []), (97, .getfield 87, 10, 25, 0, []), (100, .iload 4, 0, 0, 0, []), (102, .iaload, 0, 0, 0, []), (103, .ireturn, 0, 0, 0, []), (104, .aload_n 0, 0, 0, 0, []), (105, .getfield 90, 10, 26, 0, []), (108, .iload 4, 0, 0, 0, []), (110, .iaload, 0, 0, 0, []), (111, .ireturn, 0, 0, 0, []), (112, .aload_n 0, 0, 0, 0, []), (113, .getfield 93, 10, 27, 0, []), (116, .iload 4, 0, 0, 0, []), (118, .iaload, 0, 0, 0, []), (119, .ireturn, 0, 0, 0, []), (120, .aload_n 0, 0, 0, 0, []), (121, .getfield 96, 10, 28, 0, []), (124, .iload 4, 0, 0, 0, []), (126, .iaload, 0, 0, 0, []), (127, .ireturn, 0, 0, 0, []), (128, .aload_n 0, 0, 0, 0, []), (129, .getfield 99, 10, 29, 0, []), (132, .iload 4, 0, 0, 0, []), (134, .iaload, 0, 0, 0, []), (135, .ireturn, 0, 0, 0, []), (136, .aload_n 0, 0, 0, 0, []), (137, .getfield 102, 10, 30, 0, []), (140, .iload 4, 0, 0, 0, []), (142, .iaload, 0, 0, 0, []), (143, .ireturn, 0, 0, 0, []), (144, .aload_n 0, 0, 0, 0, []), (145, .getfield 105, 10, 31, 0, []), (148, .iload 4, 0, 0, 0, []), (150, .baload, 0, 0, 0, []), (151, .ifCond .eq 7, 65, 0, 0, []), (154, .iconst 1, 0, 0, 1, []), (155, .goto 4, 66, 0, 0, []), (158, .iconst 0, 0, 0, 0, []), (159, .ireturn, 0, 0, 0, []), (160, .aload_n 0, 0, 0, 0, []), (161, .getfield 96, 10, 28, 0, []), (164, .iload 4, 0, 0, 0, []), (166, .iaload, 0, 0, 0, []), (167, .iconst 1, 0, 0, 1, []), (168, .if_icmp .le 7, 75, 0, 0, []), (171, .iconst 1, 0, 0, 1, []), (172, .goto 4, 76, 0, 0, []), (175, .iconst 0, 0, 0, 0, []), (176, .ireturn, 0, 0, 0, []), (177, .ldc 196, 0, 0, (-2147483648), []), (179, .ireturn, 0, 0, 0, [])]
-- 115 WhoIsWhoModel.accountOf(III)I
def am_c115 : List am_E := [(0, .aload_n 0, 0, 0, 0, []), (1, .getfield 78, 10, 22, 0, []), (4, .bipush 48, 0, 0, 48, []), (6, .aload_n 0, 0, 0, 0, []), (7, .getfield 69, 10, 19, 0, []), (10, .iload_n 1, 0, 0, 0, []), (11, .iadd, 0, 0, 0, []), (12, .imul, 0, 0, 0, []), (13, .iconst 4, 0, 0, 4, []), (14, .iload_n 2, 0, 0, 0, []), (15, .imul, 0, 0, 0, []), (16, .iadd, 0, 0, 0, []), (17, .iload_n 3, 0, 0, 0, []), (18, .iadd, 0, 0, 0, []), (19, .iaload, 0, 0, 0, []), (20, .ireturn, 0, 0, 0, [])]
-- 116 WhoIsWhoModel.account(III)I
def am_c116 : List am_E := [(0, .aload_n 0, 0, 0, 0, []), (1, .iload_n 1, 0, 0, 0, []), (2, .invokevirtual 193, 108, 1, 0, []), (5, .ifCond .eq 22, 15, 0, 0, []), (8, .aload_n 0, 0, 0, 0, []), (9, .iload_n 2, 0, 0, 0, []), (10, .iload_n 3, 0, 0, 0, []), (11, .invokevirtual 201, 85, 2, 0, []), (14, .ifCond .eq 13, 15, 0, 0, []), (17, .aload_n 0, 0, 0, 0, []), (18, .iload_n 1, 0, 0, 0, []), (19, .iload_n 2, 0, 0, 0, []), (20, .iload_n 3, 0, 0, 0, []), (21, .invokevirtual 204, 115, 3, 0, []), (24, .goto 5, 16, 0, 0, []), (27, .bipush (-2), 0, 0, (-2), []), (29, .ireturn, 0, 0, 0, [])]
-- 117 WhoIsWhoModel.foretell(IIII)I
def am_c117 : List am_E := [(0, .aload_n 0, 0, 0, 0, []), (1, .iload_n 1, 0, 0, 0, []), (2, .iload_n 2, 0, 0, 0, []), (3, .invokevirtual 197, 109, 2, 0, []), (6, .ifCond .eq 41, 27, 0, 0, []), (9, .aload_n 0, 0, 0, 0, []), (10, .iload 4, 0, 0, 0, []), (12, .iconst 0, 0, 0, 0, []), (13, .iconst 1, 0, 0, 1, []), (14, .invokevirtual 130, 82, 3, 0, []), (17, .ifCond .eq 30, 27, 0, 0, []), (20, .aload_n 0, 0, 0, 0, []), (21, .iload_n 3, 0, 0, 0, []), (22, .aload_n 0, 0, 0, 0, []), (23, .getfield 93, 10, 27, 0, []), (26, .bipush 6, 0, 0, 6, []), (28, .aload_n 0, 0, 0, 0, []), (29, .getfield 69, 10, 19, 0, []), (32, .iload_n 1, 0, 0, 0, []), (33, .iadd, 0, 0, 0, []), (34, .imul, 0, 0, 0, []), (35, .iload_n 2, 0, 0, 0, []), (36, .iadd, 0, 0, 0, []), (37, .iaload, 0, 0, 0, []), (38, .sipush 999, 0, 0, 999, []), (41, .invokevirtual 130, 82, 3, 0, []), (44, .ifCond .ne 6, 29, 0, 0, []), (47, .ldc 196, 0, 0, (-2147483648), []), (49, .ireturn, 0, 0, 0, []), (50, .aload_n 0, 0, 0, 0, []), (51, .bipush 6, 0, 0, 6, []), (53, .aload_n 0, 0, 0, 0, []), (54, .getfield 69, 10, 19, 0, []), (57, .iload_n 1, 0, 0, 0, []), (58, .iadd, 0, 0, 0, []), (59, .imul, 0, 0, 0, []), (60, .iload_n 2, 0, 0, 0, []), (61, .iadd, 0, 0, 0, []), (62, .iload_n 3, 0, 0, 0, []), (63, .iload 4, 0, 0, 0, []), (65, .iconst 1, 0, 0, 1, []), (66, .if_icmp .ne 7, 44, 0, 0, []), (69, .iconst 1, 0, 0, 1, []), (70, .goto 4, 45, 0, 0, []), (73, .iconst 0, 0, 0, 0, []), (74, .invokevirtual 146, 96, 3, 0, []), (77, .l2i, 0, 0, 0, []), (78, .ireturn, 0, 0, 0, [])]
-- 118 WhoIsWhoModel.ordered(I)I
def am_c118 : List am_E := [(0, .aload_n 0, 0, 0, 0, []), (1, .invokevirtual 190, 107, 0, 0, []), (4, .aload_n 0, 0, 0, 0, []), (5, .iload_n 1, 0, 0, 0, []), (6, .iconst 0, 0, 0, 0, []), (7, .aload_n 0, 0, 0, 0, []), (8, .getfield 13, 10, 1, 0, []), (11, .iconst 1, 0, 0, 1, []), (12, .isub, 0, 0, 0, []), (13, .invokevirtual 130, 82, 3, 0, []), (16, .ifCond .eq 12, 16, 0, 0, []), (19, .aload_n 0, 0, 0, 0, []), (20, .getfield 63, 10, 17, 0, []), (23, .iload_n 1, 0, 0, 0, []), (24, .iaload, 0, 0, 0, []), (25, .goto 4, 17, 0, 0, []), (28, .iconst (-1), 0, 0, (-1), []), (29, .ireturn, 0, 0, 0, [])]
-- 119 WhoIsWhoModel.name(I)I
def am_c119 : List am_E := [(0, .aload_n 0, 0, 0, 0, []), (1, .invokevirtual 190, 107, 0, 0, []), (4, .aload_n 0, 0, 0, 0, []), (5, .iload_n 1, 0, 0, 0, []), (6, .iconst 1, 0, 0, 1, []), (7, .bipush 9, 0, 0, 9, []), (9, .invokevirtual 130, 82, 3, 0, []), (12, .ifCond .ne 5, 10, 0, 0, []), (15, .iconst (-1), 0, 0, (-1), []), (16, .ireturn, 0, 0, 0, []), (17, .iconst 0, 0, 0, 0, []), (18, .istore_n 2, 0, 0, 0, []), (19, .iload_n 2, 0, 0, 0, []), (20, .bipush 6, 0, 0, 6, []), (22, .if_icmp .ge 82, 59, 0, 0, []), (25, .iconst 1, 0, 0, 1, []), (26, .istore_n 3, 0, 0, 0, []), (27, .iconst 0, 0, 0, 0, []), (28, .istore 4, 0, 0, 0, []), (30, .iload 4, 0, 0, 0, []), (32, .aload_n 0, 0, 0, 0, []), (33, .getfield 66, 10, 18, 0, []), (36, .if_icmp .ge 56, 53, 0, 0, []), (39, .iload_n 3, 0, 0, 0, []), (40, .ifCond .eq 44, 49, 0, 0, []), (43, .iload_n 2, 0, 0, 0, []), (44, .aload_n 0, 0, 0, 0, []), (45, .getfield 75, 10, 21, 0, []), (48, .aload_n 0, 0, 0, 0, []), (49, .getfield 69, 10, 19, 0, []), (52, .iload 4, 0, 0, 0, []), (54, .iadd, 0, 0, 0, []), (55, .iaload, 0, 0, 0, []), (56, .if_icmp .ge 28, 49, 0, 0, []), (59, .aload_n 0, 0, 0, 0, []), (60, .getfield 102, 10, 30, 0, []), (63, .bipush 6, 0, 0, 6, []), (65, .aload_n 0, 0, 0, 0, []), (66, .getfield 69, 10, 19, 0, []), (69, .iload 4, 0, 0, 0, []), (71, .iadd, 0, 0, 0, []), (72, .imul, 0, 0, 0, []), (73, .iload_n 2, 0, 0, 0, []), (74, .iadd, 0, 0, 0, []), (75, .iaload, 0, 0, 0, []), (76, .iload_n 1, 0, 0, 0, []), (77, .if_icmp .ne 7, 49, 0, 0, []), (80, .iconst 1, 0, 0, 1, []), (81, .goto 4, 50, 0, 0, []), (84, .iconst 0, 0, 0, 0, []), (85, .istore_n 3, 0, 0, 0, []), (86, .iinc 4 1, 0, 0, 1, []), (89, .goto (-59), 19, 0, 0, []), (92, .iload_n 3, 0, 0, 0, []), (93, .ifCond .eq 5, 57, 0, 0, []), (96, .iload_n 2, 0, 0, 0, []), (97, .ireturn, 0, 0, 0, []), (98, .iinc 2 1, 0, 0, 1, []), (101, .goto (-82), 12, 0, 0, []), (104, .iconst (-1), 0, 0, (-1), []), (105, .ireturn, 0, 0, 0, [])]
-- 120 WhoIsWhoModel.isSure(II)Z
def am_c120 : List am_E := [(0, .iconst 1, 0, 0, 1, []), (1, .istore_n 3, 0, 0, 0, []), (2, .iconst 1, 0, 0, 1, []), (3, .istore 4, 0, 0, 0, []), (5, .iload 4, 0, 0, 0, []), (7, .aload_n 0, 0, 0, 0, []), (8, .getfield 66, 10, 18, 0, []), (11, .if_icmp .ge 37, 27, 0, 0, []), (14, .iload_n 3, 0, 0, 0, []), (15, .ifCond .eq 25, 23, 0, 0, []), (18, .aload_n 0, 0, 0, 0, []), (19, .iload 4, 0, 0, 0, []), (21, .iload_n 1, 0, 0, 0, []), (22, .iload_n 2, 0, 0, 0, []), (23, .invokevirtual 204, 115, 3, 0, []), (26, .aload_n 0, 0, 0, 0, []), (27, .iconst 0, 0, 0, 0, []), (28, .iload_n 1, 0, 0, 0, []), (29, .iload_n 2, 0, 0, 0, []), (30, .invokevirtual 204, 115, 3, 0, []), (33, .if_icmp .ne 7, 23, 0, 0, []), (36, .iconst 1, 0, 0, 1, []), (37, .goto 4, 24, 0, 0, []), (40, .iconst 0, 0, 0, 0, []), (41, .istore_n 3, 0, 0, 0, []), (42, .iinc 4 1, 0, 0, 1, []), (45, .goto (-40), 4, 0, 0, []), (48, .iload_n 3, 0, 0, 0, []), (49, .ireturn, 1, 0, 0, [])]
-- 121 WhoIsWhoModel.sure(II)I
def am_c121 : List am_E := [(0, .aload_n 0, 0, 0, 0, []), (1, .invokevirtual 190, 107, 0, 0, []), (4, .aload_n 0, 0, 0, 0, []), (5, .iload_n 1, 0, 0, 0, []), (6, .iload_n 2, 0, 0, 0, []), (7, .invokevirtual 201, 85, 2, 0, []), (10, .ifCond .eq 20, 16, 0, 0, []), (13, .aload_n 0, 0, 0, 0, []), (14, .iload_n 1, 0, 0, 0, []), (15, .iload_n 2, 0, 0, 0, []), (16, .invokevirtual 207, 120, 2, 0, []), (19, .ifCond .eq 7, 14, 0, 0, []), (22, .iconst 1, 0, 0, 1, []), (23, .goto 8, 17, 0, 0, []), (26, .iconst 0, 0, 0, 0, []), (27, .goto 4, 17, 0, 0, []), (30, .iconst (-1), 0, 0, (-1), []), (31, .ireturn, 0, 0, 0, [])]
-- 122 WhoIsWhoModel.alive(I)I
def am_c122 : List am_E := [(0, .aload_n 0, 0, 0, 0, []), (1, .iload_n 1, 0, 0, 0, []), (2, .invokevirtual 193, 108, 1, 0, []), (5, .ifCond .ne 5, 6, 0, 0, []), (8, .iconst (-1), 0, 0, (-1), []), (9, .ireturn, 0, 0, 0, []), (10, .iconst 0, 0, 0, 0, []), (11, .istore_n 2, 0, 0, 0, []), (12, .iconst 0, 0, 0, 0, []), (13, .istore_n 3, 0, 0, 0, []), (14, .iload_n 3, 0, 0, 0, []), (15, .aload_n 0, 0, 0, 0, []), (16, .getfield 75, 10, 21, 0, []), (19, .aload_n 0, 0, 0, 0, []), (20, .getfield 69, 10, 19, 0, []), (23, .iload_n 1, 0, 0, 0, []), (24, .iadd, 0, 0, 0, []), (25, .iaload, 0, 0, 0, []), (26, .if_icmp .ge 56, 52, 0, 0, []), (29, .iload_n 2, 0, 0, 0, []), (30, .aload_n 0, 0, 0, 0, []), (31, .getfield 96, 10, 28, 0, []), (34, .bipush 6, 0, 0, 6, []), (36, .aload_n 0, 0, 0, 0, []), (37, .getfield 69, 10, 19, 0, []), (40, .iload_n 1, 0, 0, 0, []), (41, .iadd, 0, 0, 0, []), (42, .imul, 0, 0, 0, []), (43, .iload_n 3, 0, 0, 0, []), (44, .iadd, 0, 0, 0, []), (45, .iaload, 0, 0, 0, []), (46, .iconst 1, 0, 0, 1, []), (47, .if_icmp .le 26, 47, 0, 0, []), (50, .aload_n 0, 0, 0, 0, []), (51, .getfield 105, 10, 31, 0, []), (54, .bipush 6, 0, 0, 6, []), (56, .aload_n 0, 0, 0, 0, []), (57, .getfield 69, 10, 19, 0, []), (60, .iload_n 1, 0, 0, 0, []), (61, .iadd, 0, 0, 0, []), (62, .imul, 0, 0, 0, []), (63, .iload_n 3, 0, 0, 0, []), (64, .iadd, 0, 0, 0, []), (65, .baload, 0, 0, 0, []), (66, .ifCond .ne 7, 47, 0, 0, []), (69, .iconst 1, 0, 0, 1, []), (70, .goto 4, 48, 0, 0, []), (73, .iconst 0, 0, 0, 0, []), (74, .iadd, 0, 0, 0, []), (75, .istore_n 2, 0, 0, 0, []), (76, .iinc 3 1, 0, 0, 1, []), (79, .goto (-65), 10, 0, 0, []), (82, .iload_n 2, 0, 0, 0, []), (83, .ireturn, 0, 0, 0, [])]
-- 123 WhoIsWhoModel.path(II)I
def am_c123 : List am_E := [(0, .aload_n 0, 0, 0, 0, []), (1, .iconst 0, 0, 0, 0, []), (2, .iload_n 1, 0, 0, 0, []), (3, .invokevirtual 197, 109, 2, 0, []), (6, .ifCond .eq 7, 7, 0, 0, []), (9, .iload_n 2, 0, 0, 0, []), (10, .ifCond .ge 5, 9, 0, 0, []), (13, .iconst (-1), 0, 0, (-1), []), (14, .ireturn, 0, 0, 0, []), (15, .iload_n 2, 0, 0, 0, []), (16, .istore_n 3, 0, 0, 0, []), (17, .iconst 0, 0, 0, 0, []), (18, .istore 4, 0, 0, 0, []), (20, .iload 4, 0, 0, 0, []), (22, .aload_n 0, 0, 0, 0, []), (23, .getfield 13, 10, 1, 0, []), (26, .if_icmp .ge 76, 55, 0, 0, []), (29, .iconst 0, 0, 0, 0, []), (30, .istore 5, 0, 0, 0, []), (32, .iload 5, 0, 0, 0, []), (34, .aload_n 0, 0, 0, 0, []), (35, .getfield 32, 10, 7, 0, []), (38, .aload_n 0, 0, 0, 0, []), (39, .getfield 63, 10, 17, 0, []), (42, .iload 4, 0, 0, 0, []), (44, .iaload, 0, 0, 0, []), (45, .iaload, 0, 0, 0, []), (46, .if_icmp .ge 50, 53, 0, 0, []), (49, .aload_n 0, 0, 0, 0, []), (50, .iconst 0, 0, 0, 0, []), (51, .aload_n 0, 0, 0, 0, []), (52, .getfield 63, 10, 17, 0, []), (55, .iload 4, 0, 0, 0, []), (57, .iaload, 0, 0, 0, []), (58, .iload 5, 0, 0, 0, []), (60, .invokevirtual 204, 115, 3, 0, []), (63, .iload_n 1, 0, 0, 0, []), (64, .if_icmp .eq 6, 39, 0, 0, []), (67, .goto 23, 51, 0, 0, []), (70, .iload_n 3, 0, 0, 0, []), (71, .ifCond .ne 16, 50, 0, 0, []), (74, .iconst 4, 0, 0, 4, []), (75, .aload_n 0, 0, 0, 0, []), (76, .getfield 63, 10, 17, 0, []), (79, .iload 4, 0, 0, 0, []), (81, .iaload, 0, 0, 0, []), (82, .imul, 0, 0, 0, []), (83, .iload 5, 0, 0, 0, []), (85, .iadd, 0, 0, 0, []), (86, .ireturn, 0, 0, 0, []), (87, .iinc 3 (-1), 0, 0, (-1), []), (90, .iinc 5 1, 0, 0, 1, []), (93, .goto (-61), 19, 0, 0, []), (96, .iinc 4 1, 0, 0, 1, []), (99, .goto (-79), 13, 0, 0, []), (102, .iconst (-1), 0, 0, (-1), []), (103, .ireturn, 0, 0, 0, [])]
-- 124 WhoIsWhoModel.latest(II)I
def am_c124 : List am_E := [(0, .iconst (-1), 0, 0, (-1), []), (1, .istore_n 3, 0, 0, 0, []), (2, .iconst 0, 0, 0, 0, []), (3, .istore 4, 0, 0, 0, []), (5, .iload 4, 0, 0, 0, []), (7, .aload_n 0, 0, 0, 0, []), (8, .getfield 13, 10, 1, 0, []), (11, .if_icmp .ge 82, 51, 0, 0, []), (14, .iconst 0, 0, 0, 0, []), (15, .istore 5, 0, 0, 0, []), (17, .iload 5, 0, 0, 0, []), (19, .aload_n 0, 0, 0, 0, []), (20, .getfield 32, 10, 7, 0, []), (23, .aload_n 0, 0, 0, 0, []), (24, .getfield 63, 10, 17, 0, []), (27, .iload 4, 0, 0, 0, []), (29, .iaload, 0, 0, 0, []), (30, .iaload, 0, 0, 0, []), (31, .if_icmp .ge 56, 49, 0, 0, []), (34, .aload_n 0, 0, 0, 0, []), (35, .getfield 29, 10, 6, 0, []), (38, .aload_n 0, 0, 0, 0, []), (39, .getfield 63, 10, 17, 0, []), (42, .iload 4, 0, 0, 0, []), (44, .iaload, 0, 0, 0, []), (45, .iaload, 0, 0, 0, []), (46, .iload_n 2, 0, 0, 0, []), (47, .if_icmp .gt 34, 47, 0, 0, []), (50, .aload_n 0, 0, 0, 0, []), (51, .iconst 0, 0, 0, 0, []), (52, .aload_n 0, 0, 0, 0, []), (53, .getfield 63, 10, 17, 0, []), (56, .iload 4, 0, 0, 0, []), (58, .iaload, 0, 0, 0, []), (59, .iload 5, 0, 0, 0, []), (61, .invokevirtual 204, 115, 3, 0, []), (64, .iload_n 1, 0, 0, 0, []), (65, .if_icmp .ne 16, 47, 0, 0, []), (68, .iconst 4, 0, 0, 4, []), (69, .aload_n 0, 0, 0, 0, []), (70, .getfield 63, 10, 17, 0, []), (73, .iload 4, 0, 0, 0, []), (75, .iaload, 0, 0, 0, []), (76, .imul, 0, 0, 0, []), (77, .iload 5, 0, 0, 0, []), (79, .iadd, 0, 0, 0, []), (80, .istore_n 3, 0, 0, 0, []), (81, .iinc 5 1, 0, 0, 1, []), (84, .goto (-67), 10, 0, 0, []), (87, .iinc 4 1, 0, 0, 1, []), (90, .goto (-85), 4, 0, 0, []), (93, .iload_n 3, 0, 0, 0, []), (94, .ireturn, 0, 0, 0, [])]
-- 125 WhoIsWhoModel.apartAt(III)I
def am_c125 : List am_E := [(0, .aload_n 0, 0, 0, 0, []), (1, .iload_n 1, 0, 0, 0, []), (2, .iload_n 3, 0, 0, 0, []), (3, .invokevirtual 210, 124, 2, 0, []), (6, .istore 4, 0, 0, 0, []), (8, .aload_n 0, 0, 0, 0, []), (9, .iload_n 2, 0, 0, 0, []), (10, .iload_n 3, 0, 0, 0, []), (11, .invokevirtual 210, 124, 2, 0, []), (14, .istore 5, 0, 0, 0, []), (16, .iload 4, 0, 0, 0, []), (18, .ifCond .lt 8, 14, 0, 0, []), (21, .iload 5, 0, 0, 0, []), (23, .ifCond .ge 5, 16, 0, 0, []), (26, .iconst (-1), 0, 0, (-1), []), (27, .ireturn, 0, 0, 0, []), (28, .aload_n 0, 0, 0, 0, []), (29, .iload 4, 0, 0, 0, []), (31, .iconst 4, 0, 0, 4, []), (32, .idiv, 0, 0, 0, []), (33, .iload 4, 0, 0, 0, []), (35, .iconst 4, 0, 0, 4, []), (36, .irem, 0, 0, 0, []), (37, .invokevirtual 142, 94, 2, 0, []), (40, .aload_n 0, 0, 0, 0, []), (41, .iload 5, 0, 0, 0, []), (43, .iconst 4, 0, 0, 4, []), (44, .idiv, 0, 0, 0, []), (45, .iload 5, 0, 0, 0, []), (47, .iconst 4, 0, 0, 4, []), (48, .irem, 0, 0, 0, []), (49, .invokevirtual 142, 94, 2, 0, []), (52, .isub, 0, 0, 0, []), (53, .istore 6, 0, 0, 0, []), (55, .aload_n 0, 0, 0, 0, []), (56, .iload 4, 0, 0, 0, []), (58, .iconst 4, 0, 0, 4, []), (59, .idiv, 0, 0, 0, []), (60, .iload 4, 0, 0, 0, []), (62, .iconst 4, 0, 0, 4, []), (63, .irem, 0, 0, 0, []), (64, .invokevirtual 150, 95, 2, 0, []), (67, .aload_n 0, 0, 0, 0, []), (68, .iload 5, 0, 0, 0, []), (70, .iconst 4, 0, 0, 4, []), (71, .idiv, 0, 0, 0, []), (72, .iload 5, 0, 0, 0, []), (74, .iconst 4, 0, 0, 4, []), (75, .irem, 0, 0, 0, []), (76, .invokevirtual 150, 95, 2, 0, []), (79, .isub, 0, 0, 0, []), (80, .istore 7, 0, 0, 0, []), (82, .iload 6, 0, 0, 0, []), (84, .iload 6, 0, 0, 0, []), (86, .imul, 0, 0, 0, []), (87, .iload 7, 0, 0, 0, []), (89, .iload 7, 0, 0, 0, []), (91, .imul, 0, 0, 0, []), (92, .iadd, 0, 0, 0, []), (93, .ireturn, 0, 0, 0, [])]
-- 126 WhoIsWhoModel.apart(III)I
def am_c126 : List am_E := [(0, .aload_n 0, 0, 0, 0, []), (1, .iconst 0, 0, 0, 0, []), (2, .iload_n 1, 0, 0, 0, []), (3, .invokevirtual 197, 109, 2, 0, []), (6, .ifCond .eq 22, 16, 0, 0, []), (9, .aload_n 0, 0, 0, 0, []), (10, .iconst 0, 0, 0, 0, []), (11, .iload_n 2, 0, 0, 0, []), (12, .invokevirtual 197, 109, 2, 0, []), (15, .ifCond .eq 13, 16, 0, 0, []), (18, .aload_n 0, 0, 0, 0, []), (19, .iload_n 1, 0, 0, 0, []), (20, .iload_n 2, 0, 0, 0, []), (21, .iload_n 3, 0, 0, 0, []), (22, .invokevirtual 213, 125, 3, 0, []), (25, .goto 4, 17, 0, 0, []), (28, .iconst (-1), 0, 0, (-1), []), (29, .ireturn, 0, 0, 0, [])]
-- 127 WhoIsWhoModel.near(III)I
def am_c127 : List am_E := [(0, .aload_n 0, 0, 0, 0, []), (1, .iconst 0, 0, 0, 0, []), (2, .iload_n 1, 0, 0, 0, []), (3, .invokevirtual 197, 109, 2, 0, []), (6, .ifCond .eq 12, 10, 0, 0, []), (9, .aload_n 0, 0, 0, 0, []), (10, .iconst 0, 0, 0, 0, []), (11, .iload_n 2, 0, 0, 0, []), (12, .invokevirtual 197, 109, 2, 0, []), (15, .ifCond .ne 5, 12, 0, 0, []), (18, .iconst (-1), 0, 0, (-1), []), (19, .ireturn, 0, 0, 0, []), (20, .aload_n 0, 0, 0, 0, []), (21, .iload_n 3, 0, 0, 0, []), (22, .iconst 0, 0, 0, 0, []), (23, .sipush 1000, 0, 0, 1000, []), (26, .invokevirtual 130, 82, 3, 0, []), (29, .ifCond .eq 8, 21, 0, 0, []), (32, .iload_n 1, 0, 0, 0, []), (33, .iload_n 2, 0, 0, 0, []), (34, .if_icmp .ne 6, 23, 0, 0, []), (37, .bipush (-2), 0, 0, (-2), []), (39, .ireturn, 0, 0, 0, []), (40, .iconst 0, 0, 0, 0, []), (41, .istore 4, 0, 0, 0, []), (43, .iload 4, 0, 0, 0, []), (45, .aload_n 0, 0, 0, 0, []), (46, .getfield 13, 10, 1, 0, []), (49, .if_icmp .ge 55, 58, 0, 0, []), (52, .aload_n 0, 0, 0, 0, []), (53, .iload_n 1, 0, 0, 0, []), (54, .iload_n 2, 0, 0, 0, []), (55, .aload_n 0, 0, 0, 0, []), (56, .getfield 29, 10, 6, 0, []), (59, .aload_n 0, 0, 0, 0, []), (60, .getfield 63, 10, 17, 0, []), (63, .iload 4, 0, 0, 0, []), (65, .iaload, 0, 0, 0, []), (66, .iaload, 0, 0, 0, []), (67, .invokevirtual 213, 125, 3, 0, []), (70, .istore 5, 0, 0, 0, []), (72, .iload 5, 0, 0, 0, []), (74, .ifCond .lt 24, 56, 0, 0, []), (77, .iload 5, 0, 0, 0, []), (79, .iload_n 3, 0, 0, 0, []), (80, .iload_n 3, 0, 0, 0, []), (81, .imul, 0, 0, 0, []), (82, .if_icmp .gt 16, 56, 0, 0, []), (85, .aload_n 0, 0, 0, 0, []), (86, .getfield 29, 10, 6, 0, []), (89, .aload_n 0, 0, 0, 0, []), (90, .getfield 63, 10, 17, 0, []), (93, .iload 4, 0, 0, 0, []), (95, .iaload, 0, 0, 0, []), (96, .iaload, 0, 0, 0, []), (97, .ireturn, 0, 0, 0, []), (98, .iinc 4 1, 0, 0, 1, []), (101, .goto (-58), 25, 0, 0, []), (104, .iconst (-1), 0, 0, (-1), []), (105, .ireturn, 0, 0, 0, [])]
-- 128 WhoIsWhoModel.pairsOf(II)I
def am_c128 : List am_E := [(0, .iconst 0, 0, 0, 0, []), (1, .istore_n 3, 0, 0, 0, []), (2, .aload_n 0, 0, 0, 0, []), (3, .iconst 0, 0, 0, 0, []), (4, .putfield 124, 10, 37, 0, []), (7, .aload_n 0, 0, 0, 0, []), (8, .iconst 0, 0, 0, 0, []), (9, .putfield 127, 10, 38, 0, []), (12, .iconst 0, 0, 0, 0, []), (13, .istore 4, 0, 0, 0, []), (15, .iload 4, 0, 0, 0, []), (17, .aload_n 0, 0, 0, 0, []), (18, .getfield 13, 10, 1, 0, []), (21, .if_icmp .ge 208, 122, 0, 0, []), (24, .iconst 0, 0, 0, 0, []), (25, .istore 5, 0, 0, 0, []), (27, .iload 5, 0, 0, 0, []), (29, .aload_n 0, 0, 0, 0, []), (30, .getfield 13, 10, 1, 0, []), (33, .if_icmp .ge 190, 120, 0, 0, []), (36, .aload_n 0, 0, 0, 0, []), (37, .getfield 26, 10, 5, 0, []), (40, .iload 4, 0, 0, 0, []), (42, .iaload, 0, 0, 0, []), (43, .iload_n 1, 0, 0, 0, []), (44, .if_icmp .ne 173, 118, 0, 0, []), (47, .aload_n 0, 0, 0, 0, []), (48, .getfield 26, 10, 5, 0, []), (51, .iload 5, 0, 0, 0, []), (53, .iaload, 0, 0, 0, []), (54, .iload_n 2, 0, 0, 0, []), (55, .if_icmp .ne 162, 118, 0, 0, []), (58, .aload_n 0, 0, 0, 0, []), (59, .getfield 29, 10, 6, 0, []), (62, .iload 4, 0, 0, 0, []), (64, .iaload, 0, 0, 0, []), (65, .aload_n 0, 0, 0, 0, []), (66, .getfield 29, 10, 6, 0, []), (69, .iload 5, 0, 0, 0, []), (71, .iaload, 0, 0, 0, []), (72, .if_icmp .eq 6, 42, 0, 0, []), (75, .goto 142, 118, 0, 0, []), (78, .iconst 4, 0, 0, 4, []), (79, .iload 4, 0, 0, 0, []), (81, .imul, 0, 0, 0, []), (82, .istore 6, 0, 0, 0, []), (84, .iload 6, 0, 0, 0, []), (86, .iconst 4, 0, 0, 4, []), (87, .iload 4, 0, 0, 0, []), (89, .imul, 0, 0, 0, []), (90, .aload_n 0, 0, 0, 0, []), (91, .getfield 32, 10, 7, 0, []), (94, .iload 4, 0, 0, 0, []), (96, .iaload, 0, 0, 0, []), (97, .iadd, 0, 0, 0, []), (98, .if_icmp .ge 119, 118, 0, 0, []), (101, .iconst 4, 0, 0, 4, []), (102, .iload 5, 0, 0, 0, []), (104, .imul, 0, 0, 0, []), (105, .istore 7, 0, 0, 0, []), (107, .iload 7, 0, 0, 0, []), (109, .iconst 4, 0, 0, 4, []), (110, .iload 5, 0, 0, 0, []), (112, .imul, 0, 0, 0, []), (113, .aload_n 0, 0, 0, 0, []), (114, .getfield 32, 10, 7, 0, []), (117, .iload 5, 0, 0, 0, []), (119, .iaload, 0, 0, 0, []), (120, .iadd, 0, 0, 0, []), (121, .if_icmp .ge 90, 116, 0, 0, []), (124, .aload_n 0, 0, 0, 0, []), (125, .getfield 41, 10, 10, 0, []), (128, .iload 6, 0, 0, 0, []), (130, .iaload, 0, 0, 0, []), (131, .ifCond .eq 74, 114, 0, 0, []), (134, .aload_n 0, 0, 0, 0, []), (135, .getfield 41, 10, 10, 0, []), (138, .iload 6, 0, 0, 0, []), (140, .iaload, 0, 0, 0, []), (141, .aload_n 0, 0, 0, 0, []), (142, .getfield 41, 10, 10, 0, []), (145, .iload 7, 0, 0, 0, []), (147, .iaload, 0, 0, 0, []), (148, .if_icmp .eq 6, 85, 0, 0, []), (151, .goto 54, 114, 0, 0, []), (154, .iinc 3 1, 0, 0, 1, []), (157, .aload_n 0, 0, 0, 0, []), (158, .dup, 0, 0, 0, []), (159, .getfield 124, 10, 37, 0, []), (162, .aload_n 0, 0, 0, 0, []), (163, .getfield 35, 10, 8, 0, []), (166, .iload 7, 0, 0, 0, []), (168, .iaload, 0, 0, 0, []), (169, .aload_n 0, 0, 0, 0, []), (170, .getfield 35, 10, 8, 0, []), (173, .iload 6, 0, 0, 0, []), (175, .iaload, 0, 0, 0, []), (176, .isub, 0, 0, 0, []), (177, .iadd, 0, 0, 0, []), (178, .putfield 124, 10, 37, 0, []), (181, .aload_n 0, 0, 0, 0, []), (182, .dup, 0, 0, 0, []), (183, .getfield 127, 10, 38, 0, []), (186, .aload_n 0, 0, 0, 0, []), (187, .getfield 38, 10, 9, 0, []), (190, .iload 7, 0, 0, 0, []), (192, .iaload, 0, 0, 0, []), (193, .aload_n 0, 0, 0, 0, []), (194, .getfield 38, 10, 9, 0, []), (197, .iload 6, 0, 0, 0, []), (199, .iaload, 0, 0, 0, []), (200, .isub, 0, 0, 0, []), (201, .iadd, 0, 0, 0, []), (202, .putfield 127, 10, 38, 0, []), (205, .iinc 7 1, 0, 0, 1, []), (208, .goto (-101), 60, 0, 0, []), (211, .iinc 6 1, 0, 0, 1, []), (214, .goto (-130), 46, 0, 0, []), (217, .iinc 5 1, 0, 0, 1, []), (220, .goto (-193), 16, 0, 0, []), (223, .iinc 4 1, 0, 0, 1, []), (226, .goto (-211), 10, 0, 0, []), (229, .iload_n 3, 0, 0, 0, []), (230, .ireturn, 0, 0, 0, [])]
-- 129 WhoIsWhoModel.pairs(II)I
def am_c129 : List am_E := [(0, .aload_n 0, 0, 0, 0, []), (1, .iload_n 1, 0, 0, 0, []), (2, .invokevirtual 138, 83, 1, 0, []), (5, .ifCond .eq 11, 8, 0, 0, []), (8, .aload_n 0, 0, 0, 0, []), (9, .iload_n 2, 0, 0, 0, []), (10, .invokevirtual 138, 83, 1, 0, []), (13, .ifCond .ne 5, 10, 0, 0, []), (16, .iconst (-1), 0, 0, (-1), []), (17, .ireturn, 0, 0, 0, []), (18, .iload_n 1, 0, 0, 0, []), (19, .iload_n 2, 0, 0, 0, []), (20, .if_icmp .ne 8, 15, 0, 0, []), (23, .bipush (-2), 0, 0, (-2), []), (25, .goto 9, 19, 0, 0, []), (28, .aload_n 0, 0, 0, 0, []), (29, .iload_n 1, 0, 0, 0, []), (30, .iload_n 2, 0, 0, 0, []), (31, .invokevirtual 216, 128, 2, 0, []), (34, .ireturn, 0, 0, 0, [])]
-- 130 WhoIsWhoModel.level(III)I
def am_c130 : List am_E := [(0, .aload_n 0, 0, 0, 0, []), (1, .iload_n 1, 0, 0, 0, []), (2, .invokevirtual 138, 83, 1, 0, []), (5, .ifCond .eq 26, 17, 0, 0, []), (8, .aload_n 0, 0, 0, 0, []), (9, .iload_n 2, 0, 0, 0, []), (10, .invokevirtual 138, 83, 1, 0, []), (13, .ifCond .eq 18, 17, 0, 0, []), (16, .iload_n 1, 0, 0, 0, []), (17, .iload_n 2, 0, 0, 0, []), (18, .if_icmp .eq 13, 17, 0, 0, []), (21, .aload_n 0, 0, 0, 0, []), (22, .iload_n 3, 0, 0, 0, []), (23, .iconst 0, 0, 0, 0, []), (24, .iconst 1, 0, 0, 1, []), (25, .invokevirtual 130, 82, 3, 0, []), (28, .ifCond .ne 6, 19, 0, 0, []), (31, .ldc 196, 0, 0, (-2147483648), []), (33, .ireturn, 0, 0, 0, []), (34, .aload_n 0, 0, 0, 0, []), (35, .iload_n 1, 0, 0, 0, []), (36, .iload_n 2, 0, 0, 0, []), (37, .invokevirtual 216, 128, 2, 0, []), (40, .istore 4, 0, 0, 0, []), (42, .iload 4, 0, 0, 0, []), (44, .ifCond .ne 8, 28, 0, 0, []), (47, .ldc 196, 0, 0, (-2147483648), []), (49, .goto 24, 38, 0, 0, []), (52, .aload_n 0, 0, 0, 0, []), (53, .iload_n 3, 0, 0, 0, []), (54, .ifCond .ne 10, 34, 0, 0, []), (57, .aload_n 0, 0, 0, 0, []), (58, .getfield 124, 10, 37, 0, []), (61, .goto 7, 36, 0, 0, []), (64, .aload_n 0, 0, 0, 0, []), (65, .getfield 127, 10, 38, 0, []), (68, .iload 4, 0, 0, 0, []), (70, .invokevirtual 157, 102, 2, 0, []), (73, .ireturn, 0, 0, 0, [])]
-- 131 WhoIsWhoModel.kept50(I)I
def am_c131 : List am_E := [(0, .iload_n 1, 0, 0, 0, []), (1, .bipush (-50), 0, 0, (-50), []), (3, .if_icmp .ge 8, 5, 0, 0, []), (6, .bipush (-50), 0, 0, (-50), []), (8, .goto 15, 11, 0, 0, []), (11, .iload_n 1, 0, 0, 0, []), (12, .bipush 50, 0, 0, 50, []), (14, .if_icmp .le 8, 10, 0, 0, []), (17, .bipush 50, 0, 0, 50, []), (19, .goto 4, 11, 0, 0, []), (22, .iload_n 1, 0, 0, 0, []), (23, .ireturn, 0, 0, 0, [])]
-- 132 WhoIsWhoModel.right(II)I
def am_c132 : List am_E := [(0, .aload_n 0, 0, 0, 0, []), (1, .iload_n 1, 0, 0, 0, []), (2, .invokevirtual 138, 83, 1, 0, []), (5, .ifCond .eq 11, 8, 0, 0, []), (8, .aload_n 0, 0, 0, 0, []), (9, .iload_n 2, 0, 0, 0, []), (10, .invokevirtual 138, 83, 1, 0, []), (13, .ifCond .ne 5, 10, 0, 0, []), (16, .iconst (-1), 0, 0, (-1), []), (17, .ireturn, 0, 0, 0, []), (18, .iload_n 1, 0, 0, 0, []), (19, .iload_n 2, 0, 0, 0, []), (20, .if_icmp .ne 6, 15, 0, 0, []), (23, .bipush (-2), 0, 0, (-2), []), (25, .ireturn, 0, 0, 0, []), (26, .aload_n 0, 0, 0, 0, []), (27, .iload_n 1, 0, 0, 0, []), (28, .iload_n 2, 0, 0, 0, []), (29, .invokevirtual 216, 128, 2, 0, []), (32, .istore_n 3, 0, 0, 0, []), (33, .iload_n 3, 0, 0, 0, []), (34, .ifCond .ne 6, 24, 0, 0, []), (37, .bipush (-3), 0, 0, (-3), []), (39, .ireturn, 0, 0, 0, []), (40, .aload_n 0, 0, 0, 0, []), (41, .aload_n 0, 0, 0, 0, []), (42, .getfield 19, 10, 3, 0, []), (45, .iload_n 1, 0, 0, 0, []), (46, .iaload, 0, 0, 0, []), (47, .aload_n 0, 0, 0, 0, []), (48, .aload_n 0, 0, 0, 0, []), (49, .getfield 124, 10, 37, 0, []), (52, .iload_n 3, 0, 0, 0, []), (53, .invokevirtual 157, 102, 2, 0, []), (56, .isub, 0, 0, 0, []), (57, .invokevirtual 219, 131, 1, 0, []), (60, .istore 4, 0, 0, 0, []), (62, .aload_n 0, 0, 0, 0, []), (63, .aload_n 0, 0, 0, 0, []), (64, .getfield 23, 10, 4, 0, []), (67, .iload_n 1, 0, 0, 0, []), (68, .iaload, 0, 0, 0, []), (69, .aload_n 0, 0, 0, 0, []), (70, .aload_n 0, 0, 0, 0, []), (71, .getfield 127, 10, 38, 0, []), (74, .iload_n 3, 0, 0, 0, []), (75, .invokevirtual 157, 102, 2, 0, []), (78, .isub, 0, 0, 0, []), (79, .invokevirtual 219, 131, 1, 0, []), (82, .istore 5, 0, 0, 0, []), (84, .iload 4, 0, 0, 0, []), (86, .aload_n 0, 0, 0, 0, []), (87, .getfield 19, 10, 3, 0, []), (90, .iload_n 2, 0, 0, 0, []), (91, .iaload, 0, 0, 0, []), (92, .if_icmp .eq 7, 58, 0, 0, []), (95, .iconst 1, 0, 0, 1, []), (96, .goto 4, 59, 0, 0, []), (99, .iconst 0, 0, 0, 0, []), (100, .iload 5, 0, 0, 0, []), (102, .aload_n 0, 0, 0, 0, []), (103, .getfield 23, 10, 4, 0, []), (106, .iload_n 2, 0, 0, 0, []), (107, .iaload, 0, 0, 0, []), (108, .if_icmp .eq 7, 67, 0, 0, []), (111, .iconst 1, 0, 0, 1, []), (112, .goto 4, 68, 0, 0, []), (115, .iconst 0, 0, 0, 0, []), (116, .iadd, 0, 0, 0, []), (117, .istore 6, 0, 0, 0, []), (119, .aload_n 0, 0, 0, 0, []), (120, .getfield 19, 10, 3, 0, []), (123, .iload_n 2, 0, 0, 0, []), (124, .iload 4, 0, 0, 0, []), (126, .iastore, 0, 0, 0, []), (127, .aload_n 0, 0, 0, 0, []), (128, .getfield 23, 10, 4, 0, []), (131, .iload_n 2, 0, 0, 0, []), (132, .iload 5, 0, 0, 0, []), (134, .iastore, 0, 0, 0, []), (135, .aload_n 0, 0, 0, 0, []), (136, .iconst 1, 0, 0, 1, []), (137, .putfield 59, 10, 16, 0, []), (140, .iload 6, 0, 0, 0, []), (142, .ireturn, 0, 0, 0, [])]
-- 133 WhoIsWhoModel.count(I)I
def am_c133 : List am_E := [(0, .aload_n 0, 0, 0, 0, []), (1, .invokevirtual 190, 107, 0, 0, []), (4, .iconst 0, 0, 0, 0, []), (5, .istore_n 2, 0, 0, 0, []), (6, .iload_n 1, 0, 0, 0, []), (7, .tableswitch 133 0 5 #[37, 42, 47, 52, 52, 52], 60, 0, 0, [6, 9, 12, 15, 15, 15]), (44, .aload_n 0, 0, 0, 0, []), (45, .getfield 7, 10, 0, 0, []), (48, .ireturn, 0, 0, 0, []), (49, .aload_n 0, 0, 0, 0, []), (50, .getfield 13, 10, 1, 0, []), (53, .ireturn, 0, 0, 0, []), (54, .aload_n 0, 0, 0, 0, []), (55, .getfield 16, 10, 2, 0, []), (58, .ireturn, 0, 0, 0, []), (59, .iconst 0, 0, 0, 0, []), (60, .istore_n 3, 0, 0, 0, []), (61, .iload_n 3, 0, 0, 0, []), (62, .aload_n 0, 0, 0, 0, []), (63, .getfield 13, 10, 1, 0, []), (66, .if_icmp .ge 72, 58, 0, 0, []), (69, .iconst 0, 0, 0, 0, []), (70, .istore 4, 0, 0, 0, []), (72, .iload 4, 0, 0, 0, []), (74, .aload_n 0, 0, 0, 0, []), (75, .getfield 32, 10, 7, 0, []), (78, .iload_n 3, 0, 0, 0, []), (79, .iaload, 0, 0, 0, []), (80, .if_icmp .ge 52, 56, 0, 0, []), (83, .iload_n 2, 0, 0, 0, []), (84, .iload_n 1, 0, 0, 0, []), (85, .iconst 3, 0, 0, 3, []), (86, .if_icmp .eq 33, 49, 0, 0, []), (89, .iload_n 1, 0, 0, 0, []), (90, .iconst 4, 0, 0, 4, []), (91, .if_icmp .ne 18, 44, 0, 0, []), (94, .aload_n 0, 0, 0, 0, []), (95, .iconst 0, 0, 0, 0, []), (96, .iload_n 3, 0, 0, 0, []), (97, .iload 4, 0, 0, 0, []), (99, .invokevirtual 204, 115, 3, 0, []), (102, .iconst (-1), 0, 0, (-1), []), (103, .if_icmp .ne 20, 51, 0, 0, []), (106, .goto 13, 49, 0, 0, []), (109, .aload_n 0, 0, 0, 0, []), (110, .iload_n 3, 0, 0, 0, []), (111, .iload 4, 0, 0, 0, []), (113, .invokevirtual 207, 120, 2, 0, []), (116, .ifCond .ne 7, 51, 0, 0, []), (119, .iconst 1, 0, 0, 1, []), (120, .goto 4, 52, 0, 0, []), (123, .iconst 0, 0, 0, 0, []), (124, .iadd, 0, 0, 0, []), (125, .istore_n 2, 0, 0, 0, []), (126, .iinc 4 1, 0, 0, 1, []), (129, .goto (-57), 23, 0, 0, []), (132, .iinc 3 1, 0, 0, 1, []), (135, .goto (-74), 17, 0, 0, []), (138, .iload_n 2, 0, 0, 0, []), (139, .ireturn, 0, 0, 0, []), (140, .iconst (-1), 0, 0, (-1), []), (141, .ireturn, 0, 0, 0, [])]
-- 134 java/lang/Math.floorDiv(II)I
def am_c134 : List am_E := [(0, .iload_n 0, 0, 0, 0, []), (1, .iload_n 1, 0, 0, 0, []), (2, .idiv, 0, 0, 0, []), (3, .istore_n 2, 0, 0, 0, []), (4, .iload_n 0, 0, 0, 0, []), (5, .iload_n 1, 0, 0, 0, []), (6, .ixor, 0, 0, 0, []), (7, .ifCond .ge 14, 17, 0, 0, []), (10, .iload_n 2, 0, 0, 0, []), (11, .iload_n 1, 0, 0, 0, []), (12, .imul, 0, 0, 0, []), (13, .iload_n 0, 0, 0, 0, []), (14, .if_icmp .eq 7, 17, 0, 0, []), (17, .iload_n 2, 0, 0, 0, []), (18, .iconst 1, 0, 0, 1, []), (19, .isub, 0, 0, 0, []), (20, .ireturn, 0, 0, 0, []), (21, .iload_n 2, 0, 0, 0, []), (22, .ireturn, 0, 0, 0, [])]
-- 135 java/lang/Math.max(II)I
def am_c135 : List am_E := [(0, .iload_n 0, 0, 0, 0, []), (1, .iload_n 1, 0, 0, 0, []), (2, .if_icmp .lt 7, 5, 0, 0, []), (5, .iload_n 0, 0, 0, 0, []), (6, .goto 4, 6, 0, 0, []), (9, .iload_n 1, 0, 0, 0, []), (10, .ireturn, 0, 0, 0, [])]
-- 136 java/lang/Math.min(II)I
def am_c136 : List am_E := [(0, .iload_n 0, 0, 0, 0, []), (1, .iload_n 1, 0, 0, 0, []), (2, .if_icmp .gt 7, 5, 0, 0, []), (5, .iload_n 0, 0, 0, 0, []), (6, .goto 4, 6, 0, 0, []), (9, .iload_n 1, 0, 0, 0, []), (10, .ireturn, 0, 0, 0, [])]
-- 137 WhoIsWhoLaw.law([I)Z
def am_c137 : List am_E := [(0, .new 7, 0, 0, 0, []), (3, .dup, 0, 0, 0, []), (4, .invokespecial 9, 0, 0, 0, []), (7, .astore_n 1, 0, 0, 0, []), (8, .new 10, 0, 0, 0, []), (11, .dup, 0, 0, 0, []), (12, .invokespecial 12, 0, 0, 0, []), (15, .astore_n 2, 0, 0, 0, []), (16, .iconst 0, 0, 0, 0, []), (17, .istore_n 3, 0, 0, 0, []), (18, .iload_n 3, 0, 0, 0, []), (19, .aload_n 0, 0, 0, 0, []), (20, .arraylength, 0, 0, 0, []), (21, .iconst 5, 0, 0, 5, []), (22, .isub, 0, 0, 0, []), (23, .if_icmp .gt 926, 669, 0, 0, []), (26, .aload_n 0, 0, 0, 0, []), (27, .iload_n 3, 0, 0, 0, []), (28, .iaload, 0, 0, 0, []), (29, .bipush 31, 0, 0, 31, []), (31, .iand, 0, 0, 0, []), (32, .tableswitch 911 0 24 #[116, 129, 172, 215, 248, 271, 304, 337, 350, 373, 396, 419, 462, 505, 558, 581, 604, 637, 660, 693, 736, 779, 812, 855, 888], 667, 0, 0, [22, 29, 66, 103, 130, 147, 174, 201, 208, 225, 242, 259, 296, 333, 380, 397, 414, 441, 458, 485, 522, 559, 586, 623, 650]), (148, .aload_n 1, 0, 0, 0, []), (149, .invokevirtual 13, 0, 0, 0, []), (152, .aload_n 2, 0, 0, 0, []), (153, .invokevirtual 17, 86, 0, 0, []), (156, .if_icmp .eq 787, 667, 0, 0, []), (159, .iconst 0, 0, 0, 0, []), (160, .ireturn, 1, 0, 0, []), (161, .aload_n 1, 0, 0, 0, []), (162, .aload_n 0, 0, 0, 0, []), (163, .iload_n 3, 0, 0, 0, []), (164, .iconst 1, 0, 0, 1, []), (165, .iadd, 0, 0, 0, []), (166, .iaload, 0, 0, 0, []), (167, .aload_n 0, 0, 0, 0, []), (168, .iload_n 3, 0, 0, 0, []), (169, .iconst 2, 0, 0, 2, []), (170, .iadd, 0, 0, 0, []), (171, .iaload, 0, 0, 0, []), (172, .aload_n 0, 0, 0, 0, []), (173, .iload_n 3, 0, 0, 0, []), (174, .iconst 3, 0, 0, 3, []), (175, .iadd, 0, 0, 0, []), (176, .iaload, 0, 0, 0, []), (177, .invokevirtual 18, 1, 3, 0, []), (180, .aload_n 2, 0, 0, 0, []), (181, .aload_n 0, 0, 0, 0, []), (182, .iload_n 3, 0, 0, 0, []), (183, .iconst 1, 0, 0, 1, []), (184, .iadd, 0, 0, 0, []), (185, .iaload, 0, 0, 0, []), (186, .aload_n 0, 0, 0, 0, []), (187, .iload_n 3, 0, 0, 0, []), (188, .iconst 2, 0, 0, 2, []), (189, .iadd, 0, 0, 0, []), (190, .iaload, 0, 0, 0, []), (191, .aload_n 0, 0, 0, 0, []), (192, .iload_n 3, 0, 0, 0, []), (193, .iconst 3, 0, 0, 3, []), (194, .iadd, 0, 0, 0, []), (195, .iaload, 0, 0, 0, []), (196, .invokevirtual 22, 87, 3, 0, []), (199, .if_icmp .eq 744, 667, 0, 0, []), (202, .iconst 0, 0, 0, 0, []), (203, .ireturn, 1, 0, 0, []), (204, .aload_n 1, 0, 0, 0, []), (205, .aload_n 0, 0, 0, 0, []), (206, .iload_n 3, 0, 0, 0, []), (207, .iconst 1, 0, 0, 1, []), (208, .iadd, 0, 0, 0, []), (209, .iaload, 0, 0, 0, []), (210, .aload_n 0, 0, 0, 0, []), (211, .iload_n 3, 0, 0, 0, []), (212, .iconst 2, 0, 0, 2, []), (213, .iadd, 0, 0, 0, []), (214, .iaload, 0, 0, 0, []), (215, .aload_n 0, 0, 0, 0, []), (216, .iload_n 3, 0, 0, 0, []), (217, .iconst 3, 0, 0, 3, []), (218, .iadd, 0, 0, 0, []), (219, .iaload, 0, 0, 0, []), (220, .invokevirtual 23, 2, 3, 0, []), (223, .aload_n 2, 0, 0, 0, []), (224, .aload_n 0, 0, 0, 0, []), (225, .iload_n 3, 0, 0, 0, []), (226, .iconst 1, 0, 0, 1, []), (227, .iadd, 0, 0, 0, []), (228, .iaload, 0, 0, 0, []), (229, .aload_n 0, 0, 0, 0, []), (230, .iload_n 3, 0, 0, 0, []), (231, .iconst 2, 0, 0, 2, []), (232, .iadd, 0, 0, 0, []), (233, .iaload, 0, 0, 0, []), (234, .aload_n 0, 0, 0, 0, []), (235, .iload_n 3, 0, 0, 0, []), (236, .iconst 3, 0, 0, 3, []), (237, .iadd, 0, 0, 0, []), (238, .iaload, 0, 0, 0, []), (239, .invokevirtual 26, 88, 3, 0, []), (242, .if_icmp .eq 701, 667, 0, 0, []), (245, .iconst 0, 0, 0, 0, []), (246, .ireturn, 1, 0, 0, []), (247, .aload_n 1, 0, 0, 0, []), (248, .aload_n 0, 0, 0, 0, []), (249, .iload_n 3, 0, 0, 0, []), (250, .iconst 1, 0, 0, 1, []), (251, .iadd, 0, 0, 0, []), (252, .iaload, 0, 0, 0, []), (253, .aload_n 0, 0, 0, 0, []), (254, .iload_n 3, 0, 0, 0, []), (255, .iconst 2, 0, 0, 2, []), (256, .iadd, 0, 0, 0, []), (257, .iaload, 0, 0, 0, []), (258, .invokevirtual 27, 3, 2, 0, []), (261, .aload_n 2, 0, 0, 0, []), (262, .aload_n 0, 0, 0, 0, []), (263, .iload_n 3, 0, 0, 0, []), (264, .iconst 1, 0, 0, 1, []), (265, .iadd, 0, 0, 0, []), (266, .iaload, 0, 0, 0, []), (267, .aload_n 0, 0, 0, 0, []), (268, .iload_n 3, 0, 0, 0, []), (269, .iconst 2, 0, 0, 2, []), (270, .iadd, 0, 0, 0, []), (271, .iaload, 0, 0, 0, []), (272, .invokevirtual 31, 89, 2, 0, []), (275, .if_icmp .eq 668, 667, 0, 0, []), (278, .iconst 0, 0, 0, 0, []), (279, .ireturn, 1, 0, 0, []), (280, .aload_n 1, 0, 0, 0, []), (281, .aload_n 0, 0, 0, 0, []), (282, .iload_n 3, 0, 0, 0, []), (283, .iconst 1, 0, 0, 1, []), (284, .iadd, 0, 0, 0, []), (285, .iaload, 0, 0, 0, []), (286, .invokevirtual 32, 4, 1, 0, []), (289, .aload_n 2, 0, 0, 0, []), (290, .aload_n 0, 0, 0, 0, []), (291, .iload_n 3, 0, 0, 0, []), (292, .iconst 1, 0, 0, 1, []), (293, .iadd, 0, 0, 0, []), (294, .iaload, 0, 0, 0, []), (295, .invokevirtual 36, 90, 1, 0, []), (298, .if_icmp .eq 645, 667, 0, 0, []), (301, .iconst 0, 0, 0, 0, []), (302, .ireturn, 1, 0, 0, []), (303, .aload_n 1, 0, 0, 0, []), (304, .aload_n 0, 0, 0, 0, []), (305, .iload_n 3, 0, 0, 0, []), (306, .iconst 1, 0, 0, 1, []), (307, .iadd, 0, 0, 0, []), (308, .iaload, 0, 0, 0, []), (309, .aload_n 0, 0, 0, 0, []), (310, .iload_n 3, 0, 0, 0, []), (311, .iconst 2, 0, 0, 2, []), (312, .iadd, 0, 0, 0, []), (313, .iaload, 0, 0, 0, []), (314, .invokevirtual 37, 5, 2, 0, []), (317, .aload_n 2, 0, 0, 0, []), (318, .aload_n 0, 0, 0, 0, []), (319, .iload_n 3, 0, 0, 0, []), (320, .iconst 1, 0, 0, 1, []), (321, .iadd, 0, 0, 0, []), (322, .iaload, 0, 0, 0, []), (323, .aload_n 0, 0, 0, 0, []), (324, .iload_n 3, 0, 0, 0, []), (325, .iconst 2, 0, 0, 2, []), (326, .iadd, 0, 0, 0, []), (327, .iaload, 0, 0, 0, []), (328, .invokevirtual 40, 91, 2, 0, []), (331, .if_icmp .eq 612, 667, 0, 0, []), (334, .iconst 0, 0, 0, 0, []), (335, .ireturn, 1, 0, 0, []), (336, .aload_n 1, 0, 0, 0, []), (337, .aload_n 0, 0, 0, 0, []), (338, .iload_n 3, 0, 0, 0, []), (339, .iconst 1, 0, 0, 1, []), (340, .iadd, 0, 0, 0, []), (341, .iaload, 0, 0, 0, []), (342, .aload_n 0, 0, 0, 0, []), (343, .iload_n 3, 0, 0, 0, []), (344, .iconst 2, 0, 0, 2, []), (345, .iadd, 0, 0, 0, []), (346, .iaload, 0, 0, 0, []), (347, .invokevirtual 41, 6, 2, 0, []), (350, .aload_n 2, 0, 0, 0, []), (351, .aload_n 0, 0, 0, 0, []), (352, .iload_n 3, 0, 0, 0, []), (353, .iconst 1, 0, 0, 1, []), (354, .iadd, 0, 0, 0, []), (355, .iaload, 0, 0, 0, []), (356, .aload_n 0, 0, 0, 0, []), (357, .iload_n 3, 0, 0, 0, []), (358, .iconst 2, 0, 0, 2, []), (359, .iadd, 0, 0, 0, []), (360, .iaload, 0, 0, 0, []), (361, .invokevirtual 44, 92, 2, 0, []), (364, .if_icmp .eq 579, 667, 0, 0, []), (367, .iconst 0, 0, 0, 0, []), (368, .ireturn, 1, 0, 0, []), (369, .aload_n 1, 0, 0, 0, []), (370, .invokevirtual 45, 7, 0, 0, []), (373, .aload_n 2, 0, 0, 0, []), (374, .invokevirtual 48, 110, 0, 0, []), (377, .if_icmp .eq 566, 667, 0, 0, []), (380, .iconst 0, 0, 0, 0, []), (381, .ireturn, 1, 0, 0, []), (382, .aload_n 1, 0, 0, 0, []), (383, .aload_n 0, 0, 0, 0, []), (384, .iload_n 3, 0, 0, 0, []), (385, .iconst 1, 0, 0, 1, []), (386, .iadd, 0, 0, 0, []), (387, .iaload, 0, 0, 0, []), (388, .invokevirtual 49, 8, 1, 0, []), (391, .aload_n 2, 0, 0, 0, []), (392, .aload_n 0, 0, 0, 0, []), (393, .iload_n 3, 0, 0, 0, []), (394, .iconst 1, 0, 0, 1, []), (395, .iadd, 0, 0, 0, []), (396, .iaload, 0, 0, 0, []), (397, .invokevirtual 52, 111, 1, 0, []), (400, .if_icmp .eq 543, 667, 0, 0, []), (403, .iconst 0, 0, 0, 0, []), (404, .ireturn, 1, 0, 0, []), (405, .aload_n 1, 0, 0, 0, []), (406, .aload_n 0, 0, 0, 0, []), (407, .iload_n 3, 0, 0, 0, []), (408, .iconst 1, 0, 0, 1, []), (409, .iadd, 0, 0, 0, []), (410, .iaload, 0, 0, 0, []), (411, .invokevirtual 53, 9, 1, 0, []), (414, .aload_n 2, 0, 0, 0, []), (415, .aload_n 0, 0, 0, 0, []), (416, .iload_n 3, 0, 0, 0, []), (417, .iconst 1, 0, 0, 1, []), (418, .iadd, 0, 0, 0, []), (419, .iaload, 0, 0, 0, []), (420, .invokevirtual 56, 112, 1, 0, []), (423, .if_icmp .eq 520, 667, 0, 0, []), (426, .iconst 0, 0, 0, 0, []), (427, .ireturn, 1, 0, 0, []), (428, .aload_n 1, 0, 0, 0, []), (429, .aload_n 0, 0, 0, 0, []), (430, .iload_n 3, 0, 0, 0, []), (431, .iconst 1, 0, 0, 1, []), (432, .iadd, 0, 0, 0, []), (433, .iaload, 0, 0, 0, []), (434, .invokevirtual 57, 10, 1, 0, []), (437, .aload_n 2, 0, 0, 0, []), (438, .aload_n 0, 0, 0, 0, []), (439, .iload_n 3, 0, 0, 0, []), (440, .iconst 1, 0, 0, 1, []), (441, .iadd, 0, 0, 0, []), (442, .iaload, 0, 0, 0, []), (443, .invokevirtual 60, 113, 1, 0, []), (446, .if_icmp .eq 497, 667, 0, 0, []), (449, .iconst 0, 0, 0, 0, []), (450, .ireturn, 1, 0, 0, []), (451, .aload_n 1, 0, 0, 0, []), (452, .aload_n 0, 0, 0, 0, []), (453, .iload_n 3, 0, 0, 0, []), (454, .iconst 1, 0, 0, 1, []), (455, .iadd, 0, 0, 0, []), (456, .iaload, 0, 0, 0, []), (457, .aload_n 0, 0, 0, 0, []), (458, .iload_n 3, 0, 0, 0, []), (459, .iconst 2, 0, 0, 2, []), (460, .iadd, 0, 0, 0, []), (461, .iaload, 0, 0, 0, []), (462, .aload_n 0, 0, 0, 0, []), (463, .iload_n 3, 0, 0, 0, []), (464, .iconst 3, 0, 0, 3, []), (465, .iadd, 0, 0, 0, []), (466, .iaload, 0, 0, 0, []), (467, .invokevirtual 61, 11, 3, 0, []), (470, .aload_n 2, 0, 0, 0, []), (471, .aload_n 0, 0, 0, 0, []), (472, .iload_n 3, 0, 0, 0, []), (473, .iconst 1, 0, 0, 1, []), (474, .iadd, 0, 0, 0, []), (475, .iaload, 0, 0, 0, []), (476, .aload_n 0, 0, 0, 0, []), (477, .iload_n 3, 0, 0, 0, []), (478, .iconst 2, 0, 0, 2, []), (479, .iadd, 0, 0, 0, []), (480, .iaload, 0, 0, 0, []), (481, .aload_n 0, 0, 0, 0, []), (482, .iload_n 3, 0, 0, 0, []), (483, .iconst 3, 0, 0, 3, []), (484, .iadd, 0, 0, 0, []), (485, .iaload, 0, 0, 0, []), (486, .invokevirtual 64, 114, 3, 0, []), (489, .if_icmp .eq 454, 667, 0, 0, []), (492, .iconst 0, 0, 0, 0, []), (493, .ireturn, 1, 0, 0, []), (494, .aload_n 1, 0, 0, 0, []), (495, .aload_n 0, 0, 0, 0, []), (496, .iload_n 3, 0, 0, 0, []), (497, .iconst 1, 0, 0, 1, []), (498, .iadd, 0, 0, 0, []), (499, .iaload, 0, 0, 0, []), (500, .aload_n 0, 0, 0, 0, []), (501, .iload_n 3, 0, 0, 0, []), (502, .iconst 2, 0, 0, 2, []), (503, .iadd, 0, 0, 0, []), (504, .iaload, 0, 0, 0, []), (505, .aload_n 0, 0, 0, 0, []), (506, .iload_n 3, 0, 0, 0, []), (507, .iconst 3, 0, 0, 3, []), (508, .iadd, 0, 0, 0, []), (509, .iaload, 0, 0, 0, []), (510, .invokevirtual 65, 12, 3, 0, []), (513, .aload_n 2, 0, 0, 0, []), (514, .aload_n 0, 0, 0, 0, []), (515, .iload_n 3, 0, 0, 0, []), (516, .iconst 1, 0, 0, 1, []), (517, .iadd, 0, 0, 0, []), (518, .iaload, 0, 0, 0, []), (519, .aload_n 0, 0, 0, 0, []), (520, .iload_n 3, 0, 0, 0, []), (521, .iconst 2, 0, 0, 2, []), (522, .iadd, 0, 0, 0, []), (523, .iaload, 0, 0, 0, []), (524, .aload_n 0, 0, 0, 0, []), (525, .iload_n 3, 0, 0, 0, []), (526, .iconst 3, 0, 0, 3, []), (527, .iadd, 0, 0, 0, []), (528, .iaload, 0, 0, 0, []), (529, .invokevirtual 68, 116, 3, 0, []), (532, .if_icmp .eq 411, 667, 0, 0, []), (535, .iconst 0, 0, 0, 0, []), (536, .ireturn, 1, 0, 0, []), (537, .aload_n 1, 0, 0, 0, []), (538, .aload_n 0, 0, 0, 0, []), (539, .iload_n 3, 0, 0, 0, []), (540, .iconst 1, 0, 0, 1, []), (541, .iadd, 0, 0, 0, []), (542, .iaload, 0, 0, 0, []), (543, .aload_n 0, 0, 0, 0, []), (544, .iload_n 3, 0, 0, 0, []), (545, .iconst 2, 0, 0, 2, []), (546, .iadd, 0, 0, 0, []), (547, .iaload, 0, 0, 0, []), (548, .aload_n 0, 0, 0, 0, []), (549, .iload_n 3, 0, 0, 0, []), (550, .iconst 3, 0, 0, 3, []), (551, .iadd, 0, 0, 0, []), (552, .iaload, 0, 0, 0, []), (553, .aload_n 0, 0, 0, 0, []), (554, .iload_n 3, 0, 0, 0, []), (555, .iconst 4, 0, 0, 4, []), (556, .iadd, 0, 0, 0, []), (557, .iaload, 0, 0, 0, []), (558, .invokevirtual 69, 13, 4, 0, []), (561, .aload_n 2, 0, 0, 0, []), (562, .aload_n 0, 0, 0, 0, []), (563, .iload_n 3, 0, 0, 0, []), (564, .iconst 1, 0, 0, 1, []), (565, .iadd, 0, 0, 0, []), (566, .iaload, 0, 0, 0, []), (567, .aload_n 0, 0, 0, 0, []), (568, .iload_n 3, 0, 0, 0, []), (569, .iconst 2, 0, 0, 2, []), (570, .iadd, 0, 0, 0, []), (571, .iaload, 0, 0, 0, []), (572, .aload_n 0, 0, 0, 0, []), (573, .iload_n 3, 0, 0, 0, []), (574, .iconst 3, 0, 0, 3, []), (575, .iadd, 0, 0, 0, []), (576, .iaload, 0, 0, 0, []), (577, .aload_n 0, 0, 0, 0, []), (578, .iload_n 3, 0, 0, 0, []), (579, .iconst 4, 0, 0, 4, []), (580, .iadd, 0, 0, 0, []), (581, .iaload, 0, 0, 0, []), (582, .invokevirtual 73, 117, 4, 0, []), (585, .if_icmp .eq 358, 667, 0, 0, []), (588, .iconst 0, 0, 0, 0, []), (589, .ireturn, 1, 0, 0, []), (590, .aload_n 1, 0, 0, 0, []), (591, .aload_n 0, 0, 0, 0, []), (592, .iload_n 3, 0, 0, 0, []), (593, .iconst 1, 0, 0, 1, []), (594, .iadd, 0, 0, 0, []), (595, .iaload, 0, 0, 0, []), (596, .invokevirtual 74, 14, 1, 0, []), (599, .aload_n 2, 0, 0, 0, []), (600, .aload_n 0, 0, 0, 0, []), (601, .iload_n 3, 0, 0, 0, []), (602, .iconst 1, 0, 0, 1, []), (603, .iadd, 0, 0, 0, []), (604, .iaload, 0, 0, 0, []), (605, .invokevirtual 77, 118, 1, 0, []), (608, .if_icmp .eq 335, 667, 0, 0, []), (611, .iconst 0, 0, 0, 0, []), (612, .ireturn, 1, 0, 0, []), (613, .aload_n 1, 0, 0, 0, []), (614, .aload_n 0, 0, 0, 0, []), (615, .iload_n 3, 0, 0, 0, []), (616, .iconst 1, 0, 0, 1, []), (617, .iadd, 0, 0, 0, []), (618, .iaload, 0, 0, 0, []), (619, .invokevirtual 78, 15, 1, 0, []), (622, .aload_n 2, 0, 0, 0, []), (623, .aload_n 0, 0, 0, 0, []), (624, .iload_n 3, 0, 0, 0, []), (625, .iconst 1, 0, 0, 1, []), (626, .iadd, 0, 0, 0, []), (627, .iaload, 0, 0, 0, []), (628, .invokevirtual 81, 119, 1, 0, []), (631, .if_icmp .eq 312, 667, 0, 0, []), (634, .iconst 0, 0, 0, 0, []), (635, .ireturn, 1, 0, 0, []), (636, .aload_n 1, 0, 0, 0, []), (637, .aload_n 0, 0, 0, 0, []), (638, .iload_n 3, 0, 0, 0, []), (639, .iconst 1, 0, 0, 1, []), (640, .iadd, 0, 0, 0, []), (641, .iaload, 0, 0, 0, []), (642, .aload_n 0, 0, 0, 0, []), (643, .iload_n 3, 0, 0, 0, []), (644, .iconst 2, 0, 0, 2, []), (645, .iadd, 0, 0, 0, []), (646, .iaload, 0, 0, 0, []), (647, .invokevirtual 82, 16, 2, 0, []), (650, .aload_n 2, 0, 0, 0, []), (651, .aload_n 0, 0, 0, 0, []), (652, .iload_n 3, 0, 0, 0, []), (653, .iconst 1, 0, 0, 1, []), (654, .iadd, 0, 0, 0, []), (655, .iaload, 0, 0, 0, []), (656, .aload_n 0, 0, 0, 0, []), (657, .iload_n 3, 0, 0, 0, []), (658, .iconst 2, 0, 0, 2, []), (659, .iadd, 0, 0, 0, []), (660, .iaload, 0, 0, 0, []), (661, .invokevirtual 85, 121, 2, 0, []), (664, .if_icmp .eq 279, 667, 0, 0, []), (667, .iconst 0, 0, 0, 0, []), (668, .ireturn, 1, 0, 0, []), (669, .aload_n 1, 0, 0, 0, []), (670, .aload_n 0, 0, 0, 0, []), (671, .iload_n 3, 0, 0, 0, []), (672, .iconst 1, 0, 0, 1, []), (673, .iadd, 0, 0, 0, []), (674, .iaload, 0, 0, 0, []), (675, .invokevirtual 86, 17, 1, 0, []), (678, .aload_n 2, 0, 0, 0, []), (679, .aload_n 0, 0, 0, 0, []), (680, .iload_n 3, 0, 0, 0, []), (681, .iconst 1, 0, 0, 1, []), (682, .iadd, 0, 0, 0, []), (683, .iaload, 0, 0, 0, []), (684, .invokevirtual 89, 122, 1, 0, []), (687, .if_icmp .eq 256, 667, 0, 0, []), (690, .iconst 0, 0, 0, 0, []), (691, .ireturn, 1, 0, 0, []), (692, .aload_n 1, 0, 0, 0, []), (693, .aload_n 0, 0, 0, 0, []), (694, .iload_n 3, 0, 0, 0, []), (695, .iconst 1, 0, 0, 1, []), (696, .iadd, 0, 0, 0, []), (697, .iaload, 0, 0, 0, []), (698, .aload_n 0, 0, 0, 0, []), (699, .iload_n 3, 0, 0, 0, []), (700, .iconst 2, 0, 0, 2, []), (701, .iadd, 0, 0, 0, []), (702, .iaload, 0, 0, 0, []), (703, .invokevirtual 90, 18, 2, 0, []), (706, .aload_n 2, 0, 0, 0, []), (707, .aload_n 0, 0, 0, 0, []), (708, .iload_n 3, 0, 0, 0, []), (709, .iconst 1, 0, 0, 1, []), (710, .iadd, 0, 0, 0, []), (711, .iaload, 0, 0, 0, []), (712, .aload_n 0, 0, 0, 0, []), (713, .iload_n 3, 0, 0, 0, []), (714, .iconst 2, 0, 0, 2, []), (715, .iadd, 0, 0, 0, []), (716, .iaload, 0, 0, 0, []), (717, .invokevirtual 93, 123, 2, 0, []), (720, .if_icmp .eq 223, 667, 0, 0, []), (723, .iconst 0, 0, 0, 0, []), (724, .ireturn, 1, 0, 0, []), (725, .aload_n 1, 0, 0, 0, []), (726, .aload_n 0, 0, 0, 0, []), (727, .iload_n 3, 0, 0, 0, []), (728, .iconst 1, 0, 0, 1, []), (729, .iadd, 0, 0, 0, []), (730, .iaload, 0, 0, 0, []), (731, .aload_n 0, 0, 0, 0, []), (732, .iload_n 3, 0, 0, 0, []), (733, .iconst 2, 0, 0, 2, []), (734, .iadd, 0, 0, 0, []), (735, .iaload, 0, 0, 0, []), (736, .aload_n 0, 0, 0, 0, []), (737, .iload_n 3, 0, 0, 0, []), (738, .iconst 3, 0, 0, 3, []), (739, .iadd, 0, 0, 0, []), (740, .iaload, 0, 0, 0, []), (741, .invokevirtual 94, 19, 3, 0, []), (744, .aload_n 2, 0, 0, 0, []), (745, .aload_n 0, 0, 0, 0, []), (746, .iload_n 3, 0, 0, 0, []), (747, .iconst 1, 0, 0, 1, []), (748, .iadd, 0, 0, 0, []), (749, .iaload, 0, 0, 0, []), (750, .aload_n 0, 0, 0, 0, []), (751, .iload_n 3, 0, 0, 0, []), (752, .iconst 2, 0, 0, 2, []), (753, .iadd, 0, 0, 0, []), (754, .iaload, 0, 0, 0, []), (755, .aload_n 0, 0, 0, 0, []), (756, .iload_n 3, 0, 0, 0, []), (757, .iconst 3, 0, 0, 3, []), (758, .iadd, 0, 0, 0, []), (759, .iaload, 0, 0, 0, []), (760, .invokevirtual 97, 126, 3, 0, []), (763, .if_icmp .eq 180, 667, 0, 0, []), (766, .iconst 0, 0, 0, 0, []), (767, .ireturn, 1, 0, 0, []), (768, .aload_n 1, 0, 0, 0, []), (769, .aload_n 0, 0, 0, 0, []), (770, .iload_n 3, 0, 0, 0, []), (771, .iconst 1, 0, 0, 1, []), (772, .iadd, 0, 0, 0, []), (773, .iaload, 0, 0, 0, []), (774, .aload_n 0, 0, 0, 0, []), (775, .iload_n 3, 0, 0, 0, []), (776, .iconst 2, 0, 0, 2, []), (777, .iadd, 0, 0, 0, []), (778, .iaload, 0, 0, 0, []), (779, .aload_n 0, 0, 0, 0, []), (780, .iload_n 3, 0, 0, 0, []), (781, .iconst 3, 0, 0, 3, []), (782, .iadd, 0, 0, 0, []), (783, .iaload, 0, 0, 0, []), (784, .invokevirtual 98, 20, 3, 0, []), (787, .aload_n 2, 0, 0, 0, []), (788, .aload_n 0, 0, 0, 0, []), (789, .iload_n 3, 0, 0, 0, []), (790, .iconst 1, 0, 0, 1, []), (791, .iadd, 0, 0, 0, []), (792, .iaload, 0, 0, 0, []), (793, .aload_n 0, 0, 0, 0, []), (794, .iload_n 3, 0, 0, 0, []), (795, .iconst 2, 0, 0, 2, []), (796, .iadd, 0, 0, 0, []), (797, .iaload, 0, 0, 0, []), (798, .aload_n 0, 0, 0, 0, []), (799, .iload_n 3, 0, 0, 0, []), (800, .iconst 3, 0, 0, 3, []), (801, .iadd, 0, 0, 0, []), (802, .iaload, 0, 0, 0, []), (803, .invokevirtual 101, 127, 3, 0, []), (806, .if_icmp .eq 137, 667, 0, 0, []), (809, .iconst 0, 0, 0, 0, []), (810, .ireturn, 1, 0, 0, []), (811, .aload_n 1, 0, 0, 0, []), (812, .aload_n 0, 0, 0, 0, []), (813, .iload_n 3, 0, 0, 0, []), (814, .iconst 1, 0, 0, 1, []), (815, .iadd, 0, 0, 0, []), (816, .iaload, 0, 0, 0, []), (817, .aload_n 0, 0, 0, 0, []), (818, .iload_n 3, 0, 0, 0, []), (819, .iconst 2, 0, 0, 2, []), (820, .iadd, 0, 0, 0, []), (821, .iaload, 0, 0, 0, []), (822, .invokevirtual 102, 21, 2, 0, []), (825, .aload_n 2, 0, 0, 0, []), (826, .aload_n 0, 0, 0, 0, []), (827, .iload_n 3, 0, 0, 0, []), (828, .iconst 1, 0, 0, 1, []), (829, .iadd, 0, 0, 0, []), (830, .iaload, 0, 0, 0, []), (831, .aload_n 0, 0, 0, 0, []), (832, .iload_n 3, 0, 0, 0, []), (833, .iconst 2, 0, 0, 2, []), (834, .iadd, 0, 0, 0, []), (835, .iaload, 0, 0, 0, []), (836, .invokevirtual 105, 129, 2, 0, []), (839, .if_icmp .eq 104, 667, 0, 0, []), (842, .iconst 0, 0, 0, 0, []), (843, .ireturn, 1, 0, 0, []), (844, .aload_n 1, 0, 0, 0, []), (845, .aload_n 0, 0, 0, 0, []), (846, .iload_n 3, 0, 0, 0, []), (847, .iconst 1, 0, 0, 1, []), (848, .iadd, 0, 0, 0, []), (849, .iaload, 0, 0, 0, []), (850, .aload_n 0, 0, 0, 0, []), (851, .iload_n 3, 0, 0, 0, []), (852, .iconst 2, 0, 0, 2, []), (853, .iadd, 0, 0, 0, []), (854, .iaload, 0, 0, 0, []), (855, .aload_n 0, 0, 0, 0, []), (856, .iload_n 3, 0, 0, 0, []), (857, .iconst 3, 0, 0, 3, []), (858, .iadd, 0, 0, 0, []), (859, .iaload, 0, 0, 0, []), (860, .invokevirtual 106, 22, 3, 0, []), (863, .aload_n 2, 0, 0, 0, []), (864, .aload_n 0, 0, 0, 0, []), (865, .iload_n 3, 0, 0, 0, []), (866, .iconst 1, 0, 0, 1, []), (867, .iadd, 0, 0, 0, []), (868, .iaload, 0, 0, 0, []), (869, .aload_n 0, 0, 0, 0, []), (870, .iload_n 3, 0, 0, 0, []), (871, .iconst 2, 0, 0, 2, []), (872, .iadd, 0, 0, 0, []), (873, .iaload, 0, 0, 0, []), (874, .aload_n 0, 0, 0, 0, []), (875, .iload_n 3, 0, 0, 0, []), (876, .iconst 3, 0, 0, 3, []), (877, .iadd, 0, 0, 0, []), (878, .iaload, 0, 0, 0, []), (879, .invokevirtual 109, 130, 3, 0, []), (882, .if_icmp .eq 61, 667, 0, 0, []), (885, .iconst 0, 0, 0, 0, []), (886, .ireturn, 1, 0, 0, []), (887, .aload_n 1, 0, 0, 0, []), (888, .aload_n 0, 0, 0, 0, []), (889, .iload_n 3, 0, 0, 0, []), (890, .iconst 1, 0, 0, 1, []), (891, .iadd, 0, 0, 0, []), (892, .iaload, 0, 0, 0, []), (893, .aload_n 0, 0, 0, 0, []), (894, .iload_n 3, 0, 0, 0, []), (895, .iconst 2, 0, 0, 2, []), (896, .iadd, 0, 0, 0, []), (897, .iaload, 0, 0, 0, []), (898, .invokevirtual 110, 23, 2, 0, []), (901, .aload_n 2, 0, 0, 0, []), (902, .aload_n 0, 0, 0, 0, []), (903, .iload_n 3, 0, 0, 0, []), (904, .iconst 1, 0, 0, 1, []), (905, .iadd, 0, 0, 0, []), (906, .iaload, 0, 0, 0, []), (907, .aload_n 0, 0, 0, 0, []), (908, .iload_n 3, 0, 0, 0, []), (909, .iconst 2, 0, 0, 2, []), (910, .iadd, 0, 0, 0, []), (911, .iaload, 0, 0, 0, []), (912, .invokevirtual 113, 132, 2, 0, []), (915, .if_icmp .eq 28, 667, 0, 0, []), (918, .iconst 0, 0, 0, 0, []), (919, .ireturn, 1, 0, 0, []), (920, .aload_n 1, 0, 0, 0, []), (921, .aload_n 0, 0, 0, 0, []), (922, .iload_n 3, 0, 0, 0, []), (923, .iconst 1, 0, 0, 1, []), (924, .iadd, 0, 0, 0, []), (925, .iaload, 0, 0, 0, []), (926, .invokevirtual 114, 24, 1, 0, []), (929, .aload_n 2, 0, 0, 0, []), (930, .aload_n 0, 0, 0, 0, []), (931, .iload_n 3, 0, 0, 0, []), (932, .iconst 1, 0, 0, 1, []), (933, .iadd, 0, 0, 0, []), (934, .iaload, 0, 0, 0, []), (935, .invokevirtual 117, 133, 1, 0, []), (938, .if_icmp .eq 5, 667, 0, 0, []), (941, .iconst 0, 0, 0, 0, []), (942, .ireturn, 1, 0, 0, []), (943, .iinc 3 5, 0, 0, 5, []), (946, .goto (-928), 10, 0, 0, []), (949, .iconst 1, 0, 0, 1, []), (950, .ireturn, 1, 0, 0, [])]
def am_cd (y : Nat) : List am_E := (bif Nat.blt y 69 then (bif Nat.blt y 34 then (bif Nat.blt y 17 then (bif Nat.blt y 8 then (bif Nat.blt y 4 then (bif Nat.blt y 2 then (bif Nat.blt y 1 then am_c0 else am_c1) else (bif Nat.blt y 3 then am_c2 else am_c3)) else (bif Nat.blt y 6 then (bif Nat.blt y 5 then am_c4 else am_c5) else (bif Nat.blt y 7 then am_c6 else am_c7))) else (bif Nat.blt y 12 then (bif Nat.blt y 10 then (bif Nat.blt y 9 then am_c8 else am_c9) else (bif Nat.blt y 11 then am_c10 else am_c11)) else (bif Nat.blt y 14 then (bif Nat.blt y 13 then am_c12 else am_c13) else (bif Nat.blt y 15 then am_c14 else (bif Nat.blt y 16 then am_c15 else am_c16))))) else (bif Nat.blt y 25 then (bif Nat.blt y 21 then (bif Nat.blt y 19 then (bif Nat.blt y 18 then am_c17 else am_c18) else (bif Nat.blt y 20 then am_c19 else am_c20)) else (bif Nat.blt y 23 then (bif Nat.blt y 22 then am_c21 else am_c22) else (bif Nat.blt y 24 then am_c23 else am_c24))) else (bif Nat.blt y 29 then (bif Nat.blt y 27 then (bif Nat.blt y 26 then am_c25 else am_c26) else (bif Nat.blt y 28 then am_c27 else am_c28)) else (bif Nat.blt y 31 then (bif Nat.blt y 30 then am_c29 else am_c30) else (bif Nat.blt y 32 then am_c31 else (bif Nat.blt y 33 then am_c32 else am_c33)))))) else (bif Nat.blt y 51 then (bif Nat.blt y 42 then (bif Nat.blt y 38 then (bif Nat.blt y 36 then (bif Nat.blt y 35 then am_c34 else am_c35) else (bif Nat.blt y 37 then am_c36 else am_c37)) else (bif Nat.blt y 40 then (bif Nat.blt y 39 then am_c38 else am_c39) else (bif Nat.blt y 41 then am_c40 else am_c41))) else (bif Nat.blt y 46 then (bif Nat.blt y 44 then (bif Nat.blt y 43 then am_c42 else am_c43) else (bif Nat.blt y 45 then am_c44 else am_c45)) else (bif Nat.blt y 48 then (bif Nat.blt y 47 then am_c46 else am_c47) else (bif Nat.blt y 49 then am_c48 else (bif Nat.blt y 50 then am_c49 else am_c50))))) else (bif Nat.blt y 60 then (bif Nat.blt y 55 then (bif Nat.blt y 53 then (bif Nat.blt y 52 then am_c51 else am_c52) else (bif Nat.blt y 54 then am_c53 else am_c54)) else (bif Nat.blt y 57 then (bif Nat.blt y 56 then am_c55 else am_c56) else (bif Nat.blt y 58 then am_c57 else (bif Nat.blt y 59 then am_c58 else am_c59)))) else (bif Nat.blt y 64 then (bif Nat.blt y 62 then (bif Nat.blt y 61 then am_c60 else am_c61) else (bif Nat.blt y 63 then am_c62 else am_c63)) else (bif Nat.blt y 66 then (bif Nat.blt y 65 then am_c64 else am_c65) else (bif Nat.blt y 67 then am_c66 else (bif Nat.blt y 68 then am_c67 else am_c68))))))) else (bif Nat.blt y 103 then (bif Nat.blt y 86 then (bif Nat.blt y 77 then (bif Nat.blt y 73 then (bif Nat.blt y 71 then (bif Nat.blt y 70 then am_c69 else am_c70) else (bif Nat.blt y 72 then am_c71 else am_c72)) else (bif Nat.blt y 75 then (bif Nat.blt y 74 then am_c73 else am_c74) else (bif Nat.blt y 76 then am_c75 else am_c76))) else (bif Nat.blt y 81 then (bif Nat.blt y 79 then (bif Nat.blt y 78 then am_c77 else am_c78) else (bif Nat.blt y 80 then am_c79 else am_c80)) else (bif Nat.blt y 83 then (bif Nat.blt y 82 then am_c81 else am_c82) else (bif Nat.blt y 84 then am_c83 else (bif Nat.blt y 85 then am_c84 else am_c85))))) else (bif Nat.blt y 94 then (bif Nat.blt y 90 then (bif Nat.blt y 88 then (bif Nat.blt y 87 then am_c86 else am_c87) else (bif Nat.blt y 89 then am_c88 else am_c89)) else (bif Nat.blt y 92 then (bif Nat.blt y 91 then am_c90 else am_c91) else (bif Nat.blt y 93 then am_c92 else am_c93))) else (bif Nat.blt y 98 then (bif Nat.blt y 96 then (bif Nat.blt y 95 then am_c94 else am_c95) else (bif Nat.blt y 97 then am_c96 else am_c97)) else (bif Nat.blt y 100 then (bif Nat.blt y 99 then am_c98 else am_c99) else (bif Nat.blt y 101 then am_c100 else (bif Nat.blt y 102 then am_c101 else am_c102)))))) else (bif Nat.blt y 120 then (bif Nat.blt y 111 then (bif Nat.blt y 107 then (bif Nat.blt y 105 then (bif Nat.blt y 104 then am_c103 else am_c104) else (bif Nat.blt y 106 then am_c105 else am_c106)) else (bif Nat.blt y 109 then (bif Nat.blt y 108 then am_c107 else am_c108) else (bif Nat.blt y 110 then am_c109 else am_c110))) else (bif Nat.blt y 115 then (bif Nat.blt y 113 then (bif Nat.blt y 112 then am_c111 else am_c112) else (bif Nat.blt y 114 then am_c113 else am_c114)) else (bif Nat.blt y 117 then (bif Nat.blt y 116 then am_c115 else am_c116) else (bif Nat.blt y 118 then am_c117 else (bif Nat.blt y 119 then am_c118 else am_c119))))) else (bif Nat.blt y 129 then (bif Nat.blt y 124 then (bif Nat.blt y 122 then (bif Nat.blt y 121 then am_c120 else am_c121) else (bif Nat.blt y 123 then am_c122 else am_c123)) else (bif Nat.blt y 126 then (bif Nat.blt y 125 then am_c124 else am_c125) else (bif Nat.blt y 127 then am_c126 else (bif Nat.blt y 128 then am_c127 else am_c128)))) else (bif Nat.blt y 133 then (bif Nat.blt y 131 then (bif Nat.blt y 130 then am_c129 else am_c130) else (bif Nat.blt y 132 then am_c131 else am_c132)) else (bif Nat.blt y 135 then (bif Nat.blt y 134 then am_c133 else am_c134) else (bif Nat.blt y 136 then am_c135 else (bif Nat.blt y 137 then am_c136 else am_c137))))))))
end
section
def am_kind (f : Nat) : Nat := (am_nth am_fam f (9, 0, 0, 0)).1
def am_cnt (f : Nat) : Nat := (am_nth am_fam f (9, 0, 0, 0)).2.1
def am_len0 (f : Nat) : Nat := (am_nth am_fam f (9, 0, 0, 0)).2.2.1
def am_cls (f : Nat) : Nat := (am_nth am_fam f (9, 0, 0, 0)).2.2.2
/-- an array's length: the script's stands beside it -/
def am_len (M : am_M) (f : Nat) : Nat := bif Nat.beq f 61 then (M.1 61 1 0).toNatClampNeg else am_len0 f
def am_fty (c k : Nat) : Nat := am_nth (am_nth am_ftyT c []) k 9
/-- the family that a reference leads to: of a field, by its class; of a row of references, by its family -/
def am_rfF (c k : Nat) : Nat := am_nth (am_nth am_rfT c []) k 99
def am_rfA (f : Nat) : Nat := bif Nat.beq f 4 then 18 else bif Nat.beq f 9 then 24 else bif Nat.beq f 12 then 22 else 27
/-- the place that it leads to -/
def am_riF (M : am_M) (f i k : Nat) : Nat := bif Nat.beq f 8 then (bif Nat.beq k 3 then 0 else M.2.1 8 k) else i
def am_riA (M : am_M) (f i k : Nat) : Nat := bif Nat.beq f 4 then M.2.1 4 k else bif Nat.beq f 12 then M.2.1 12 k else bif Nat.beq f 9 then 4 * i + k else 6 * i + k
def am_stT (f k : Nat) : Int32 := bif Nat.beq f 59 then am_nth [0, 0, 0, 0, 1, 1] k 0 else am_nth [500, 100000, 100000, 100000, 9, 4] k 0
/-- an int of an array: of the two constant ones by their tables -/
def am_iv (M : am_M) (f i n : Nat) : Int32 := bif Nat.beq f 59 then am_stT 59 n else bif Nat.beq f 60 then am_stT 60 n else M.1 f i n
def am_fv (M : am_M) (c f i k : Nat) : am_V := match am_fty c k with
  | 2 => .inr (.inl (am_rfF c k, am_riF M f i k))
  | 3 => .inr (.inr M.2.2)
  | _ => .inl (M.1 f i k)
def am_ml (y : Nat) : Nat := (am_nth am_mth y (0, 0, 0, 0)).2.1
def am_mc (y : Nat) : Nat := (am_nth am_mth y (0, 0, 0, 0)).1
def am_mi (y : Nat) : Nat := (am_nth am_mth y (0, 0, 0, 0)).2.2.2
def am_at (y pc : Nat) : Option am_E := am_nth ((am_cd y).map some) pc none
def am_recv (y : Nat) (as : List am_V) : Bool := match as with
  | .inr (.inl q) :: _ => Nat.beq (am_kind q.1) 0 && Nat.beq (am_cls q.1) (am_mc y)
  | _ => false
def am_call (X Y : am_X) (d y pc : Nat) (ls : List (Option am_V)) (M : am_M) (Q : am_P) (callee : Nat) (p : Option (List am_V × List am_V)) (stat : Bool) : Prop := match p with
  | none => False
  | some (as, rest) => bif Nat.ble (am_cat rest) 8 && Nat.ble (am_cat as) (am_ml callee) && (stat || am_recv callee as) then 1 ≤ d ∧ ∃ Q' : am_P, Y (d - 1) callee 0 (am_ent (am_ml callee) as) [] M Q' ∧ ∀ (r : Option am_V) (M' : am_M), Q' r M' → X d y (pc + 1) ls (r.toList ++ rest) M' Q else False
/-- one step: what must hold at a frame, if X is to hold at the next one, Y of the methods that are called -/
def am_F (X Y : am_X) (d y pc : Nat) (ls : List (Option am_V)) (st : List am_V) (M : am_M) (Q : am_P) (en : Option am_E) : Prop := match en with
  | none => False
  | some (_, ins, a, b, z, tg) => match ins with
    | .aload_n k => am_vr (am_nth ls k none) fun f i => X d y (pc + 1) ls (.inr (.inl (f, i)) :: st) M Q
    | .aload k => am_vr (am_nth ls k none) fun f i => X d y (pc + 1) ls (.inr (.inl (f, i)) :: st) M Q
    | .iload_n k => am_vi (am_nth ls k none) fun x => X d y (pc + 1) ls (.inl x :: st) M Q
    | .iload k => am_vi (am_nth ls k none) fun x => X d y (pc + 1) ls (.inl x :: st) M Q
    | .lload_n k => am_vl (am_nth ls k none) fun x => X d y (pc + 1) ls (.inr (.inr x) :: st) M Q
    | .lload k => am_vl (am_nth ls k none) fun x => X d y (pc + 1) ls (.inr (.inr x) :: st) M Q
    | .istore_n k => am_i st fun x r => X d y (pc + 1) (am_set ls k (.inl x)) r M Q
    | .istore k => am_i st fun x r => X d y (pc + 1) (am_set ls k (.inl x)) r M Q
    | .astore_n k => am_r st fun f i r => X d y (pc + 1) (am_set ls k (.inr (.inl (f, i)))) r M Q
    | .astore k => am_r st fun f i r => X d y (pc + 1) (am_set ls k (.inr (.inl (f, i)))) r M Q
    | .lstore k => am_l st fun x r => X d y (pc + 1) (am_set2 ls k x) r M Q
    | .iconst _ => X d y (pc + 1) ls (.inl z :: st) M Q
    | .bipush _ => X d y (pc + 1) ls (.inl z :: st) M Q
    | .sipush _ => X d y (pc + 1) ls (.inl z :: st) M Q
    | .ldc _ => X d y (pc + 1) ls (.inl z :: st) M Q
    | .iadd => am_ii st fun u v r => X d y (pc + 1) ls (.inl (u + v) :: r) M Q
    | .isub => am_ii st fun u v r => X d y (pc + 1) ls (.inl (u - v) :: r) M Q
    | .imul => am_ii st fun u v r => X d y (pc + 1) ls (.inl (u * v) :: r) M Q
    | .iand => am_ii st fun u v r => X d y (pc + 1) ls (.inl (u &&& v) :: r) M Q
    | .ior => am_ii st fun u v r => X d y (pc + 1) ls (.inl (u ||| v) :: r) M Q
    | .ixor => am_ii st fun u v r => X d y (pc + 1) ls (.inl (u ^^^ v) :: r) M Q
    | .ishl => am_ii st fun u v r => X d y (pc + 1) ls (.inl (u <<< (v &&& 31)) :: r) M Q
    | .ishr => am_ii st fun u v r => X d y (pc + 1) ls (.inl (u >>> (v &&& 31)) :: r) M Q
    | .idiv => am_ii st fun u v r => ¬ v = 0 ∧ X d y (pc + 1) ls (.inl (u / v) :: r) M Q
    | .irem => am_ii st fun u v r => ¬ v = 0 ∧ X d y (pc + 1) ls (.inl (u - u / v * v) :: r) M Q
    | .ladd => am_ll st fun u v r => X d y (pc + 1) ls (.inr (.inr (u + v)) :: r) M Q
    | .lsub => am_ll st fun u v r => X d y (pc + 1) ls (.inr (.inr (u - v)) :: r) M Q
    | .lmul => am_ll st fun u v r => X d y (pc + 1) ls (.inr (.inr (u * v)) :: r) M Q
    | .lcmp => am_ll st fun u v r => X d y (pc + 1) ls (.inl (lg_cmp u v) :: r) M Q
    | .i2l => am_i st fun u r => X d y (pc + 1) ls (.inr (.inr u.toInt64) :: r) M Q
    | .l2i => am_l st fun u r => X d y (pc + 1) ls (.inl u.toInt32 :: r) M Q
    | .iinc k _ => am_vi (am_nth ls k none) fun x => X d y (pc + 1) (am_set ls k (.inl (x + z))) st M Q
    | .dup => am_r st fun f i r => X d y (pc + 1) ls (.inr (.inl (f, i)) :: .inr (.inl (f, i)) :: r) M Q
    | .dup2 => am_i st fun j r => am_r r fun f i r => X d y (pc + 1) ls (.inl j :: .inr (.inl (f, i)) :: .inl j :: .inr (.inl (f, i)) :: r) M Q
    | .goto _ => X d y a ls st M Q
    | .ifCond c _ => am_i st fun u r => (am_cmp c u 0 → X d y a ls r M Q) ∧ (¬ am_cmp c u 0 → X d y (pc + 1) ls r M Q)
    | .if_icmp c _ => am_ii st fun u v r => (am_cmp c u v → X d y a ls r M Q) ∧ (¬ am_cmp c u v → X d y (pc + 1) ls r M Q)
    | .tableswitch _ lo hi _ => am_i st fun u r => ((u.toInt < lo ∨ hi < u.toInt) → X d y a ls r M Q) ∧ am_sw u.toInt lo tg fun t => X d y t ls r M Q
    | .getfield _ => am_r st fun f i r => bif Nat.beq (am_kind f) 0 && Nat.beq (am_cls f) a then X d y (pc + 1) ls (am_fv M a f i b :: r) M Q else False
    | .putfield _ => match am_fty a b with
      | 0 => am_i st fun x r => am_r r fun f i r => bif Nat.beq (am_kind f) 0 && Nat.beq (am_cls f) a then X d y (pc + 1) ls r (am_si M f i b x) Q else False
      | 1 => am_i st fun x r => am_r r fun f i r => bif Nat.beq (am_kind f) 0 && Nat.beq (am_cls f) a then (x = 0 ∨ x = 1) ∧ X d y (pc + 1) ls r (am_si M f i b x) Q else False
      | 2 => am_r st fun g j r => am_r r fun f i r => bif Nat.beq f 8 && Nat.beq a 2 && Nat.beq g 9 && (Nat.beq b 0 || Nat.beq b 2) then X d y (pc + 1) ls r (am_sv M f b j) Q else False
      | 3 => am_l st fun x r => am_r r fun f i r => bif Nat.beq f 10 && Nat.beq a 3 then X d y (pc + 1) ls r (am_sl M x) Q else False
      | _ => False
    | .iaload => am_i st fun j r => am_r r fun f i r => bif Nat.beq (am_kind f) 1 then ∃ n : Nat, n < am_len M f ∧ j = nI n ∧ X d y (pc + 1) ls (.inl (am_iv M f i n) :: r) M Q else False
    | .baload => am_i st fun j r => am_r r fun f i r => bif Nat.beq (am_kind f) 2 then ∃ n : Nat, n < am_len M f ∧ j = nI n ∧ X d y (pc + 1) ls (.inl (M.1 f i n) :: r) M Q else False
    | .aaload => am_i st fun j r => am_r r fun f i r => bif Nat.beq (am_kind f) 3 then ∃ n : Nat, n < am_len M f ∧ j = nI n ∧ X d y (pc + 1) ls (.inr (.inl (am_rfA f, am_riA M f i n)) :: r) M Q else False
    | .iastore => am_i st fun x r => am_i r fun j r => am_r r fun f i r => bif Nat.beq (am_kind f) 1 && Nat.blt f 59 then ∃ n : Nat, n < am_len M f ∧ j = nI n ∧ X d y (pc + 1) ls r (am_si M f i n x) Q else False
    | .bastore => am_i st fun x r => am_i r fun j r => am_r r fun f i r => bif Nat.beq (am_kind f) 2 then ∃ n : Nat, n < am_len M f ∧ j = nI n ∧ (x = 0 ∨ x = 1) ∧ X d y (pc + 1) ls r (am_si M f i n x) Q else False
    | .aastore => am_r st fun g k r => am_i r fun j r => am_r r fun f i r => bif (Nat.beq f 4 && Nat.beq g 18) || (Nat.beq f 12 && Nat.beq g 22) then ∃ n : Nat, n < am_len M f ∧ j = nI n ∧ X d y (pc + 1) ls r (am_sv M f n k) Q else False
    | .arraylength => am_r st fun f i r => bif Nat.beq (am_kind f) 1 then X d y (pc + 1) ls (.inl (nI (am_len M f)) :: r) M Q else False
    | .getstatic _ => bif Nat.beq a 59 || Nat.beq a 60 then X d y (pc + 1) ls (.inr (.inl (a, 0)) :: st) M Q else False
    | .invokevirtual _ => am_call X Y d y pc ls M Q a (am_pop (b + 1) st []) false
    | .invokestatic _ => bif Nat.beq a 999 then am_i st fun n r => am_i r fun q r => am_r r fun g k r => am_i r fun p r => am_r r fun f i r => bif Nat.ble (am_cat r) 8 && Nat.beq (am_kind f) 1 && Nat.beq (am_kind g) 1 && Nat.blt f 59 && Nat.blt g 59 && Nat.beq (am_len0 f) (am_len0 g) then 1 ≤ d ∧ p = 0 ∧ q = 0 ∧ n = nI (am_len0 f) ∧ X d y (pc + 1) ls r (am_sr M g k (va_cpy (M.1 f i) (M.1 g k) 0 0 (am_len0 f))) Q else False
      else am_call X Y d y pc ls M Q a (am_pop b st []) true
    | .ireturn => am_i st fun x r => match r with
      | [] => bif Nat.beq a 1 then (x = 0 ∨ x = 1) ∧ Q (some (.inl x)) M else Q (some (.inl x)) M
      | _ => False
    | .lreturn => am_l st fun x r => match r with
      | [] => Q (some (.inr (.inr x))) M
      | _ => False
    | .areturn => am_r st fun f i r => match r with
      | [] => Q (some (.inr (.inl (f, i)))) M
      | _ => False
    | .return_ => match st with
      | [] => Q none M
      | _ => False
    | _ => False
/-- closed under one step: all that is proved of methods is proved of every X that is -/
def am_Cl (X : am_X) : Prop := ∀ d y pc ls st M Q, am_F X X d y pc ls st M Q (am_at y pc) → X d y pc ls st M Q
/-- up to k steps, or to an index among stops -/
def am_W (X : am_X) (stops : List Nat) : Nat → am_X
  | 0 => X
  | k + 1 => fun d y pc ls st M Q => bif stops.elem pc then X d y pc ls st M Q else am_F (am_W X stops k) X d y pc ls st M Q (am_at y pc)
end
section
/-! one step is monotone; up to k steps at once -/
theorem am_i_m {st : List am_V} {K K' : Int32 → List am_V → Prop} (h : ∀ x r, K x r → K' x r) : am_i st K → am_i st K' := by
  unfold am_i; split
  · exact h _ _
  · exact id
theorem am_r_m {st : List am_V} {K K' : Nat → Nat → List am_V → Prop} (h : ∀ f i r, K f i r → K' f i r) : am_r st K → am_r st K' := by
  unfold am_r; split
  · exact h _ _ _
  · exact id
theorem am_l_m {st : List am_V} {K K' : Int64 → List am_V → Prop} (h : ∀ x r, K x r → K' x r) : am_l st K → am_l st K' := by
  unfold am_l; split
  · exact h _ _
  · exact id
theorem am_ii_m {st : List am_V} {K K' : Int32 → Int32 → List am_V → Prop} (h : ∀ x y r, K x y r → K' x y r) : am_ii st K → am_ii st K' := am_i_m fun _ _ => am_i_m fun _ _ => h _ _ _
theorem am_ll_m {st : List am_V} {K K' : Int64 → Int64 → List am_V → Prop} (h : ∀ x y r, K x y r → K' x y r) : am_ll st K → am_ll st K' := am_l_m fun _ _ => am_l_m fun _ _ => h _ _ _
theorem am_vi_m {v : Option am_V} {K K' : Int32 → Prop} (h : ∀ x, K x → K' x) : am_vi v K → am_vi v K' := by
  unfold am_vi; split
  · exact h _
  · exact id
theorem am_vr_m {v : Option am_V} {K K' : Nat → Nat → Prop} (h : ∀ f i, K f i → K' f i) : am_vr v K → am_vr v K' := by
  unfold am_vr; split
  · exact h _ _
  · exact id
theorem am_vl_m {v : Option am_V} {K K' : Int64 → Prop} (h : ∀ x, K x → K' x) : am_vl v K → am_vl v K' := by
  unfold am_vl; split
  · exact h _
  · exact id
theorem am_b_m {c : Bool} {A A' : Prop} (h : A → A') : (bif c then A else False) → (bif c then A' else False) := by
  cases c
  · exact id
  · exact h
theorem am_sw_m {u : Int} {ts : List Nat} {K K' : Nat → Prop} (h : ∀ t, K t → K' t) : ∀ {lo : Int}, am_sw u lo ts K → am_sw u lo ts K' := by
  induction ts with
  | nil => exact fun h => h
  | cons t ts ih => exact fun q => ⟨fun c => h _ (q.1 c), ih q.2⟩
theorem am_call_m {X X' Y : am_X} (h : ∀ d y pc ls st M Q, X d y pc ls st M Q → X' d y pc ls st M Q) {d y pc : Nat} {ls : List (Option am_V)} {M : am_M} {Q : am_P} {callee : Nat} {p : Option (List am_V × List am_V)} {s : Bool} : am_call X Y d y pc ls M Q callee p s → am_call X' Y d y pc ls M Q callee p s := by
  unfold am_call; split
  · exact id
  · exact am_b_m fun ⟨a, Q', b, c⟩ => ⟨a, Q', b, fun r M' q => h _ _ _ _ _ _ _ (c r M' q)⟩
theorem am_F_m {X X' Y : am_X} (h : ∀ d y pc ls st M Q, X d y pc ls st M Q → X' d y pc ls st M Q) {d y pc : Nat} {ls : List (Option am_V)} {st : List am_V} {M : am_M} {Q : am_P} {en : Option am_E} :
    am_F X Y d y pc ls st M Q en → am_F X' Y d y pc ls st M Q en := by
  cases en with
  | none => exact id
  | some e =>
    obtain ⟨p, ins, a, b, z, tg⟩ := e
    cases ins with
    | aload_n k => intro q; simp only [am_F] at q ⊢; exact am_vr_m (fun _ _ => h _ _ _ _ _ _ _) q
    | aload k => intro q; simp only [am_F] at q ⊢; exact am_vr_m (fun _ _ => h _ _ _ _ _ _ _) q
    | iload_n k => exact am_vi_m fun _ => h _ _ _ _ _ _ _
    | iload k => exact am_vi_m fun _ => h _ _ _ _ _ _ _
    | lload_n k => exact am_vl_m fun _ => h _ _ _ _ _ _ _
    | lload k => exact am_vl_m fun _ => h _ _ _ _ _ _ _
    | istore_n k => exact am_i_m fun _ _ => h _ _ _ _ _ _ _
    | istore k => exact am_i_m fun _ _ => h _ _ _ _ _ _ _
    | astore_n k => intro q; simp only [am_F] at q ⊢; exact am_r_m (fun _ _ _ => h _ _ _ _ _ _ _) q
    | astore k => intro q; simp only [am_F] at q ⊢; exact am_r_m (fun _ _ _ => h _ _ _ _ _ _ _) q
    | lstore k => exact am_l_m fun _ _ => h _ _ _ _ _ _ _
    | iconst k => exact h _ _ _ _ _ _ _
    | bipush k => exact h _ _ _ _ _ _ _
    | sipush k => exact h _ _ _ _ _ _ _
    | ldc k => exact h _ _ _ _ _ _ _
    | iadd => exact am_ii_m fun _ _ _ => h _ _ _ _ _ _ _
    | isub => exact am_ii_m fun _ _ _ => h _ _ _ _ _ _ _
    | imul => exact am_ii_m fun _ _ _ => h _ _ _ _ _ _ _
    | iand => exact am_ii_m fun _ _ _ => h _ _ _ _ _ _ _
    | ior => exact am_ii_m fun _ _ _ => h _ _ _ _ _ _ _
    | ixor => exact am_ii_m fun _ _ _ => h _ _ _ _ _ _ _
    | ishl => exact am_ii_m fun _ _ _ => h _ _ _ _ _ _ _
    | ishr => exact am_ii_m fun _ _ _ => h _ _ _ _ _ _ _
    | idiv => exact am_ii_m fun _ _ _ q => ⟨q.1, h _ _ _ _ _ _ _ q.2⟩
    | irem => exact am_ii_m fun _ _ _ q => ⟨q.1, h _ _ _ _ _ _ _ q.2⟩
    | ladd => exact am_ll_m fun _ _ _ => h _ _ _ _ _ _ _
    | lsub => exact am_ll_m fun _ _ _ => h _ _ _ _ _ _ _
    | lmul => exact am_ll_m fun _ _ _ => h _ _ _ _ _ _ _
    | lcmp => exact am_ll_m fun _ _ _ => h _ _ _ _ _ _ _
    | i2l => exact am_i_m fun _ _ => h _ _ _ _ _ _ _
    | l2i => exact am_l_m fun _ _ => h _ _ _ _ _ _ _
    | iinc k n => exact am_vi_m fun _ => h _ _ _ _ _ _ _
    | dup => intro q; simp only [am_F] at q ⊢; exact am_r_m (fun _ _ _ => h _ _ _ _ _ _ _) q
    | dup2 => intro q; simp only [am_F] at q ⊢; exact am_i_m (fun _ _ => am_r_m fun _ _ _ => h _ _ _ _ _ _ _) q
    | goto k => exact h _ _ _ _ _ _ _
    | ifCond c k => exact am_i_m fun _ _ q => ⟨fun c => h _ _ _ _ _ _ _ (q.1 c), fun c => h _ _ _ _ _ _ _ (q.2 c)⟩
    | if_icmp c k => exact am_ii_m fun _ _ _ q => ⟨fun c => h _ _ _ _ _ _ _ (q.1 c), fun c => h _ _ _ _ _ _ _ (q.2 c)⟩
    | tableswitch _ lo hi _ => exact am_i_m fun _ _ q => ⟨fun c => h _ _ _ _ _ _ _ (q.1 c), am_sw_m (fun _ => h _ _ _ _ _ _ _) q.2⟩
    | getfield k => intro q; simp only [am_F] at q ⊢; exact am_r_m (fun _ _ _ => am_b_m (h _ _ _ _ _ _ _)) q
    | putfield k =>
      simp only [am_F]
      split
      · exact am_i_m fun _ _ => am_r_m fun _ _ _ => am_b_m (h _ _ _ _ _ _ _)
      · exact am_i_m fun _ _ => am_r_m fun _ _ _ => am_b_m fun q => ⟨q.1, h _ _ _ _ _ _ _ q.2⟩
      · exact am_r_m fun _ _ _ => am_r_m fun _ _ _ => am_b_m (h _ _ _ _ _ _ _)
      · exact am_l_m fun _ _ => am_r_m fun _ _ _ => am_b_m (h _ _ _ _ _ _ _)
      · exact id
    | iaload => intro q; simp only [am_F] at q ⊢; exact am_i_m (fun _ _ => am_r_m fun _ _ _ => am_b_m fun ⟨n, a, b, q⟩ => ⟨n, a, b, h _ _ _ _ _ _ _ q⟩) q
    | baload => intro q; simp only [am_F] at q ⊢; exact am_i_m (fun _ _ => am_r_m fun _ _ _ => am_b_m fun ⟨n, a, b, q⟩ => ⟨n, a, b, h _ _ _ _ _ _ _ q⟩) q
    | aaload => intro q; simp only [am_F] at q ⊢; exact am_i_m (fun _ _ => am_r_m fun _ _ _ => am_b_m fun ⟨n, a, b, q⟩ => ⟨n, a, b, h _ _ _ _ _ _ _ q⟩) q
    | iastore => intro q; simp only [am_F] at q ⊢; exact am_i_m (fun _ _ => am_i_m fun _ _ => am_r_m fun _ _ _ => am_b_m fun ⟨n, a, b, q⟩ => ⟨n, a, b, h _ _ _ _ _ _ _ q⟩) q
    | bastore => intro q; simp only [am_F] at q ⊢; exact am_i_m (fun _ _ => am_i_m fun _ _ => am_r_m fun _ _ _ => am_b_m fun ⟨n, a, b, c, q⟩ => ⟨n, a, b, c, h _ _ _ _ _ _ _ q⟩) q
    | aastore => intro q; simp only [am_F] at q ⊢; exact am_r_m (fun _ _ _ => am_i_m fun _ _ => am_r_m fun _ _ _ => am_b_m fun ⟨n, a, b, q⟩ => ⟨n, a, b, h _ _ _ _ _ _ _ q⟩) q
    | arraylength => intro q; simp only [am_F] at q ⊢; exact am_r_m (fun _ _ _ => am_b_m (h _ _ _ _ _ _ _)) q
    | getstatic k => exact am_b_m (h _ _ _ _ _ _ _)
    | invokevirtual k => exact am_call_m h
    | invokestatic k =>
      simp only [am_F]
      cases Nat.beq a 999
      · exact am_call_m h
      · exact am_i_m fun _ _ => am_i_m fun _ _ => am_r_m fun _ _ _ => am_i_m fun _ _ => am_r_m fun _ _ _ => am_b_m fun ⟨a, b, c, e, q⟩ => ⟨a, b, c, e, h _ _ _ _ _ _ _ q⟩
    | _ => exact id
theorem am_W_ok {X : am_X} (hX : am_Cl X) (stops : List Nat) (k : Nat) : ∀ d y pc ls st M Q, am_W X stops k d y pc ls st M Q → X d y pc ls st M Q := by
  induction k with
  | zero => exact fun d y pc ls st M Q h => h
  | succ k ih =>
    intro d y pc ls st M Q h
    unfold am_W at h
    cases hb : stops.elem pc with
    | true => rw [hb] at h; exact h
    | false => rw [hb] at h; exact hX d y pc ls st M Q (am_F_m ih h)
/-- from here up to k steps, each branch to its next stop -/
theorem am_go {X : am_X} (hX : am_Cl X) (stops : List Nat) (k : Nat) {d y pc : Nat} {ls : List (Option am_V)} {st : List am_V} {M : am_M} {Q : am_P} (h : am_F (am_W X stops k) X d y pc ls st M Q (am_at y pc)) : X d y pc ls st M Q :=
  hX d y pc ls st M Q (am_F_m (am_W_ok hX stops k) h)
end
section
-- ===== PART A: goes FIRST, ahead of the names: the tables' words, and 'selects' of the private methods out of them =====
/-- a private method of a class that the tables say can be made, by its rows of tables_1 -/
def lw_okq (q : MethodName × Nat) : Prop := (q.1.cls ≠ "java/lang/invoke/MethodHandle" ∧ q.1.cls ≠ "java/lang/invoke/VarHandle") ∧ Cond.instantiable q.1.cls q.2 ∈ tables_1 ∧ Cond.privateMethod q.1 ∈ tables_1 ∧ Cond.instanceMethod q.1 ∈ tables_1
theorem lw_p0 : lw_okq (⟨"WhoIsWho$Keeper", "takeIn", "(LWhoIsWho$Told;I)V"⟩, 4) := ⟨⟨by decide +kernel, by decide +kernel⟩, List.mem_of_getElem? (i := 124) (by decide +kernel), List.mem_of_getElem? (i := 404) (by decide +kernel), List.mem_of_getElem? (i := 405) (by decide +kernel)⟩
theorem lw_p1 : lw_okq (⟨"WhoIsWho$Dealer", "setTolls", "(LWhoIsWho$World;LWhoIsWho$Told;I)V"⟩, 12) := ⟨⟨by decide +kernel, by decide +kernel⟩, List.mem_of_getElem? (i := 132) (by decide +kernel), List.mem_of_getElem? (i := 422) (by decide +kernel), List.mem_of_getElem? (i := 423) (by decide +kernel)⟩
theorem lw_p2 : lw_okq (⟨"WhoIsWho$Dealer", "toll", "(JJ)I"⟩, 12) := ⟨⟨by decide +kernel, by decide +kernel⟩, List.mem_of_getElem? (i := 132) (by decide +kernel), List.mem_of_getElem? (i := 450) (by decide +kernel), List.mem_of_getElem? (i := 451) (by decide +kernel)⟩
theorem lw_p3 : lw_okq (⟨"WhoIsWho$Dealer", "setLeast", "()V"⟩, 12) := ⟨⟨by decide +kernel, by decide +kernel⟩, List.mem_of_getElem? (i := 132) (by decide +kernel), List.mem_of_getElem? (i := 454) (by decide +kernel), List.mem_of_getElem? (i := 455) (by decide +kernel)⟩
theorem lw_p4 : lw_okq (⟨"WhoIsWho$Dealer", "mayServe", "(III)Z"⟩, 12) := ⟨⟨by decide +kernel, by decide +kernel⟩, List.mem_of_getElem? (i := 132) (by decide +kernel), List.mem_of_getElem? (i := 475) (by decide +kernel), List.mem_of_getElem? (i := 476) (by decide +kernel)⟩
theorem lw_p5 : lw_okq (⟨"WhoIsWho", "dotOfTrack", "(II)I"⟩, 3) := ⟨⟨by decide +kernel, by decide +kernel⟩, List.mem_of_getElem? (i := 15) (by decide +kernel), List.mem_of_getElem? (i := 610) (by decide +kernel), List.mem_of_getElem? (i := 611) (by decide +kernel)⟩
theorem lw_p6 : lw_okq (⟨"WhoIsWho", "squareApart", "(III)I"⟩, 3) := ⟨⟨by decide +kernel, by decide +kernel⟩, List.mem_of_getElem? (i := 15) (by decide +kernel), List.mem_of_getElem? (i := 618) (by decide +kernel), List.mem_of_getElem? (i := 619) (by decide +kernel)⟩
theorem lw_p7 : lw_okq (⟨"WhoIsWho", "latestDot", "(II)I"⟩, 3) := ⟨⟨by decide +kernel, by decide +kernel⟩, List.mem_of_getElem? (i := 15) (by decide +kernel), List.mem_of_getElem? (i := 622) (by decide +kernel), List.mem_of_getElem? (i := 623) (by decide +kernel)⟩
theorem lw_p8 : lw_okq (⟨"WhoIsWho", "countFalse", "()I"⟩, 3) := ⟨⟨by decide +kernel, by decide +kernel⟩, List.mem_of_getElem? (i := 15) (by decide +kernel), List.mem_of_getElem? (i := 675) (by decide +kernel), List.mem_of_getElem? (i := 676) (by decide +kernel)⟩
theorem lw_p9 : lw_okq (⟨"WhoIsWho", "countUnsure", "()I"⟩, 3) := ⟨⟨by decide +kernel, by decide +kernel⟩, List.mem_of_getElem? (i := 15) (by decide +kernel), List.mem_of_getElem? (i := 679) (by decide +kernel), List.mem_of_getElem? (i := 680) (by decide +kernel)⟩
theorem lw_p10 : lw_okq (⟨"WhoIsWhoModel", "isWatcher", "(I)Z"⟩, 39) := ⟨⟨by decide +kernel, by decide +kernel⟩, List.mem_of_getElem? (i := 683) (by decide +kernel), List.mem_of_getElem? (i := 815) (by decide +kernel), List.mem_of_getElem? (i := 816) (by decide +kernel)⟩
theorem lw_p11 : lw_okq (⟨"WhoIsWhoModel", "in", "(III)Z"⟩, 39) := ⟨⟨by decide +kernel, by decide +kernel⟩, List.mem_of_getElem? (i := 683) (by decide +kernel), List.mem_of_getElem? (i := 819) (by decide +kernel), List.mem_of_getElem? (i := 820) (by decide +kernel)⟩
theorem lw_p12 : lw_okq (⟨"WhoIsWhoModel", "isScan", "(I)Z"⟩, 39) := ⟨⟨by decide +kernel, by decide +kernel⟩, List.mem_of_getElem? (i := 683) (by decide +kernel), List.mem_of_getElem? (i := 835) (by decide +kernel), List.mem_of_getElem? (i := 836) (by decide +kernel)⟩
theorem lw_p13 : lw_okq (⟨"WhoIsWhoModel", "renew", "()V"⟩, 39) := ⟨⟨by decide +kernel, by decide +kernel⟩, List.mem_of_getElem? (i := 683) (by decide +kernel), List.mem_of_getElem? (i := 852) (by decide +kernel), List.mem_of_getElem? (i := 853) (by decide +kernel)⟩
theorem lw_p14 : lw_okq (⟨"WhoIsWhoModel", "sort", "()V"⟩, 39) := ⟨⟨by decide +kernel, by decide +kernel⟩, List.mem_of_getElem? (i := 683) (by decide +kernel), List.mem_of_getElem? (i := 856) (by decide +kernel), List.mem_of_getElem? (i := 857) (by decide +kernel)⟩
theorem lw_p15 : lw_okq (⟨"WhoIsWhoModel", "takeScan", "(I)V"⟩, 39) := ⟨⟨by decide +kernel, by decide +kernel⟩, List.mem_of_getElem? (i := 683) (by decide +kernel), List.mem_of_getElem? (i := 860) (by decide +kernel), List.mem_of_getElem? (i := 861) (by decide +kernel)⟩
def lw_privs_1 : List (MethodName × Nat) := [(⟨"WhoIsWho$Keeper", "takeIn", "(LWhoIsWho$Told;I)V"⟩, 4), (⟨"WhoIsWho$Dealer", "setTolls", "(LWhoIsWho$World;LWhoIsWho$Told;I)V"⟩, 12), (⟨"WhoIsWho$Dealer", "toll", "(JJ)I"⟩, 12), (⟨"WhoIsWho$Dealer", "setLeast", "()V"⟩, 12), (⟨"WhoIsWho$Dealer", "mayServe", "(III)Z"⟩, 12), (⟨"WhoIsWho", "dotOfTrack", "(II)I"⟩, 3), (⟨"WhoIsWho", "squareApart", "(III)I"⟩, 3), (⟨"WhoIsWho", "latestDot", "(II)I"⟩, 3), (⟨"WhoIsWho", "countFalse", "()I"⟩, 3), (⟨"WhoIsWho", "countUnsure", "()I"⟩, 3), (⟨"WhoIsWhoModel", "isWatcher", "(I)Z"⟩, 39), (⟨"WhoIsWhoModel", "in", "(III)Z"⟩, 39), (⟨"WhoIsWhoModel", "isScan", "(I)Z"⟩, 39), (⟨"WhoIsWhoModel", "renew", "()V"⟩, 39), (⟨"WhoIsWhoModel", "sort", "()V"⟩, 39), (⟨"WhoIsWhoModel", "takeScan", "(I)V"⟩, 39)]
theorem lw_r1 : ∀ q ∈ lw_privs_1, lw_okq q := List.forall_mem_cons.mpr ⟨lw_p0, List.forall_mem_cons.mpr ⟨lw_p1, List.forall_mem_cons.mpr ⟨lw_p2, List.forall_mem_cons.mpr ⟨lw_p3, List.forall_mem_cons.mpr ⟨lw_p4, List.forall_mem_cons.mpr ⟨lw_p5, List.forall_mem_cons.mpr ⟨lw_p6, List.forall_mem_cons.mpr ⟨lw_p7, List.forall_mem_cons.mpr ⟨lw_p8, List.forall_mem_cons.mpr ⟨lw_p9, List.forall_mem_cons.mpr ⟨lw_p10, List.forall_mem_cons.mpr ⟨lw_p11, List.forall_mem_cons.mpr ⟨lw_p12, List.forall_mem_cons.mpr ⟨lw_p13, List.forall_mem_cons.mpr ⟨lw_p14, List.forall_mem_cons.mpr ⟨lw_p15, fun _ h => absurd h List.not_mem_nil⟩⟩⟩⟩⟩⟩⟩⟩⟩⟩⟩⟩⟩⟩⟩⟩
theorem lw_p16 : lw_okq (⟨"WhoIsWhoModel", "findJoins", "(II)V"⟩, 39) := ⟨⟨by decide +kernel, by decide +kernel⟩, List.mem_of_getElem? (i := 683) (by decide +kernel), List.mem_of_getElem? (i := 864) (by decide +kernel), List.mem_of_getElem? (i := 865) (by decide +kernel)⟩
theorem lw_p17 : lw_okq (⟨"WhoIsWhoModel", "rightX", "(II)I"⟩, 39) := ⟨⟨by decide +kernel, by decide +kernel⟩, List.mem_of_getElem? (i := 683) (by decide +kernel), List.mem_of_getElem? (i := 868) (by decide +kernel), List.mem_of_getElem? (i := 869) (by decide +kernel)⟩
theorem lw_p18 : lw_okq (⟨"WhoIsWhoModel", "foretold", "(IIZ)J"⟩, 39) := ⟨⟨by decide +kernel, by decide +kernel⟩, List.mem_of_getElem? (i := 683) (by decide +kernel), List.mem_of_getElem? (i := 872) (by decide +kernel), List.mem_of_getElem? (i := 873) (by decide +kernel)⟩
theorem lw_p19 : lw_okq (⟨"WhoIsWhoModel", "rightY", "(II)I"⟩, 39) := ⟨⟨by decide +kernel, by decide +kernel⟩, List.mem_of_getElem? (i := 683) (by decide +kernel), List.mem_of_getElem? (i := 876) (by decide +kernel), List.mem_of_getElem? (i := 877) (by decide +kernel)⟩
theorem lw_p20 : lw_okq (⟨"WhoIsWhoModel", "costOf", "(III)I"⟩, 39) := ⟨⟨by decide +kernel, by decide +kernel⟩, List.mem_of_getElem? (i := 683) (by decide +kernel), List.mem_of_getElem? (i := 880) (by decide +kernel), List.mem_of_getElem? (i := 881) (by decide +kernel)⟩
theorem lw_p21 : lw_okq (⟨"WhoIsWhoModel", "digit", "(III)I"⟩, 39) := ⟨⟨by decide +kernel, by decide +kernel⟩, List.mem_of_getElem? (i := 683) (by decide +kernel), List.mem_of_getElem? (i := 884) (by decide +kernel), List.mem_of_getElem? (i := 885) (by decide +kernel)⟩
theorem lw_p22 : lw_okq (⟨"WhoIsWhoModel", "offer", "(III)V"⟩, 39) := ⟨⟨by decide +kernel, by decide +kernel⟩, List.mem_of_getElem? (i := 683) (by decide +kernel), List.mem_of_getElem? (i := 888) (by decide +kernel), List.mem_of_getElem? (i := 889) (by decide +kernel)⟩
theorem lw_p23 : lw_okq (⟨"WhoIsWhoModel", "copyWorld", "(II)V"⟩, 39) := ⟨⟨by decide +kernel, by decide +kernel⟩, List.mem_of_getElem? (i := 683) (by decide +kernel), List.mem_of_getElem? (i := 892) (by decide +kernel), List.mem_of_getElem? (i := 893) (by decide +kernel)⟩
theorem lw_p24 : lw_okq (⟨"WhoIsWhoModel", "apply", "(III)V"⟩, 39) := ⟨⟨by decide +kernel, by decide +kernel⟩, List.mem_of_getElem? (i := 683) (by decide +kernel), List.mem_of_getElem? (i := 896) (by decide +kernel), List.mem_of_getElem? (i := 897) (by decide +kernel)⟩
theorem lw_p25 : lw_okq (⟨"WhoIsWhoModel", "begin", "(III)V"⟩, 39) := ⟨⟨by decide +kernel, by decide +kernel⟩, List.mem_of_getElem? (i := 683) (by decide +kernel), List.mem_of_getElem? (i := 900) (by decide +kernel), List.mem_of_getElem? (i := 901) (by decide +kernel)⟩
theorem lw_p26 : lw_okq (⟨"WhoIsWhoModel", "goOn", "(III)V"⟩, 39) := ⟨⟨by decide +kernel, by decide +kernel⟩, List.mem_of_getElem? (i := 683) (by decide +kernel), List.mem_of_getElem? (i := 904) (by decide +kernel), List.mem_of_getElem? (i := 905) (by decide +kernel)⟩
theorem lw_p27 : lw_okq (⟨"WhoIsWhoModel", "cut", "(II)I"⟩, 39) := ⟨⟨by decide +kernel, by decide +kernel⟩, List.mem_of_getElem? (i := 683) (by decide +kernel), List.mem_of_getElem? (i := 908) (by decide +kernel), List.mem_of_getElem? (i := 909) (by decide +kernel)⟩
theorem lw_p28 : lw_okq (⟨"WhoIsWhoModel", "isWorld", "(I)Z"⟩, 39) := ⟨⟨by decide +kernel, by decide +kernel⟩, List.mem_of_getElem? (i := 683) (by decide +kernel), List.mem_of_getElem? (i := 916) (by decide +kernel), List.mem_of_getElem? (i := 917) (by decide +kernel)⟩
theorem lw_p29 : lw_okq (⟨"WhoIsWhoModel", "isTrack", "(II)Z"⟩, 39) := ⟨⟨by decide +kernel, by decide +kernel⟩, List.mem_of_getElem? (i := 683) (by decide +kernel), List.mem_of_getElem? (i := 933) (by decide +kernel), List.mem_of_getElem? (i := 934) (by decide +kernel)⟩
theorem lw_p30 : lw_okq (⟨"WhoIsWhoModel", "isDot", "(II)Z"⟩, 39) := ⟨⟨by decide +kernel, by decide +kernel⟩, List.mem_of_getElem? (i := 683) (by decide +kernel), List.mem_of_getElem? (i := 941) (by decide +kernel), List.mem_of_getElem? (i := 942) (by decide +kernel)⟩
theorem lw_p31 : lw_okq (⟨"WhoIsWhoModel", "accountOf", "(III)I"⟩, 39) := ⟨⟨by decide +kernel, by decide +kernel⟩, List.mem_of_getElem? (i := 683) (by decide +kernel), List.mem_of_getElem? (i := 945) (by decide +kernel), List.mem_of_getElem? (i := 946) (by decide +kernel)⟩
def lw_privs_2 : List (MethodName × Nat) := [(⟨"WhoIsWhoModel", "findJoins", "(II)V"⟩, 39), (⟨"WhoIsWhoModel", "rightX", "(II)I"⟩, 39), (⟨"WhoIsWhoModel", "foretold", "(IIZ)J"⟩, 39), (⟨"WhoIsWhoModel", "rightY", "(II)I"⟩, 39), (⟨"WhoIsWhoModel", "costOf", "(III)I"⟩, 39), (⟨"WhoIsWhoModel", "digit", "(III)I"⟩, 39), (⟨"WhoIsWhoModel", "offer", "(III)V"⟩, 39), (⟨"WhoIsWhoModel", "copyWorld", "(II)V"⟩, 39), (⟨"WhoIsWhoModel", "apply", "(III)V"⟩, 39), (⟨"WhoIsWhoModel", "begin", "(III)V"⟩, 39), (⟨"WhoIsWhoModel", "goOn", "(III)V"⟩, 39), (⟨"WhoIsWhoModel", "cut", "(II)I"⟩, 39), (⟨"WhoIsWhoModel", "isWorld", "(I)Z"⟩, 39), (⟨"WhoIsWhoModel", "isTrack", "(II)Z"⟩, 39), (⟨"WhoIsWhoModel", "isDot", "(II)Z"⟩, 39), (⟨"WhoIsWhoModel", "accountOf", "(III)I"⟩, 39)]
theorem lw_r2 : ∀ q ∈ lw_privs_2, lw_okq q := List.forall_mem_cons.mpr ⟨lw_p16, List.forall_mem_cons.mpr ⟨lw_p17, List.forall_mem_cons.mpr ⟨lw_p18, List.forall_mem_cons.mpr ⟨lw_p19, List.forall_mem_cons.mpr ⟨lw_p20, List.forall_mem_cons.mpr ⟨lw_p21, List.forall_mem_cons.mpr ⟨lw_p22, List.forall_mem_cons.mpr ⟨lw_p23, List.forall_mem_cons.mpr ⟨lw_p24, List.forall_mem_cons.mpr ⟨lw_p25, List.forall_mem_cons.mpr ⟨lw_p26, List.forall_mem_cons.mpr ⟨lw_p27, List.forall_mem_cons.mpr ⟨lw_p28, List.forall_mem_cons.mpr ⟨lw_p29, List.forall_mem_cons.mpr ⟨lw_p30, List.forall_mem_cons.mpr ⟨lw_p31, fun _ h => absurd h List.not_mem_nil⟩⟩⟩⟩⟩⟩⟩⟩⟩⟩⟩⟩⟩⟩⟩⟩
theorem lw_p32 : lw_okq (⟨"WhoIsWhoModel", "isSure", "(II)Z"⟩, 39) := ⟨⟨by decide +kernel, by decide +kernel⟩, List.mem_of_getElem? (i := 683) (by decide +kernel), List.mem_of_getElem? (i := 965) (by decide +kernel), List.mem_of_getElem? (i := 966) (by decide +kernel)⟩
theorem lw_p33 : lw_okq (⟨"WhoIsWhoModel", "apartAt", "(III)I"⟩, 39) := ⟨⟨by decide +kernel, by decide +kernel⟩, List.mem_of_getElem? (i := 683) (by decide +kernel), List.mem_of_getElem? (i := 981) (by decide +kernel), List.mem_of_getElem? (i := 982) (by decide +kernel)⟩
theorem lw_p34 : lw_okq (⟨"WhoIsWhoModel", "latest", "(II)I"⟩, 39) := ⟨⟨by decide +kernel, by decide +kernel⟩, List.mem_of_getElem? (i := 683) (by decide +kernel), List.mem_of_getElem? (i := 985) (by decide +kernel), List.mem_of_getElem? (i := 986) (by decide +kernel)⟩
theorem lw_p35 : lw_okq (⟨"WhoIsWhoModel", "pairsOf", "(II)I"⟩, 39) := ⟨⟨by decide +kernel, by decide +kernel⟩, List.mem_of_getElem? (i := 683) (by decide +kernel), List.mem_of_getElem? (i := 997) (by decide +kernel), List.mem_of_getElem? (i := 998) (by decide +kernel)⟩
theorem lw_p36 : lw_okq (⟨"WhoIsWhoModel", "kept50", "(I)I"⟩, 39) := ⟨⟨by decide +kernel, by decide +kernel⟩, List.mem_of_getElem? (i := 683) (by decide +kernel), List.mem_of_getElem? (i := 1009) (by decide +kernel), List.mem_of_getElem? (i := 1010) (by decide +kernel)⟩
def lw_privs_3 : List (MethodName × Nat) := [(⟨"WhoIsWhoModel", "isSure", "(II)Z"⟩, 39), (⟨"WhoIsWhoModel", "apartAt", "(III)I"⟩, 39), (⟨"WhoIsWhoModel", "latest", "(II)I"⟩, 39), (⟨"WhoIsWhoModel", "pairsOf", "(II)I"⟩, 39), (⟨"WhoIsWhoModel", "kept50", "(I)I"⟩, 39)]
theorem lw_r3 : ∀ q ∈ lw_privs_3, lw_okq q := List.forall_mem_cons.mpr ⟨lw_p32, List.forall_mem_cons.mpr ⟨lw_p33, List.forall_mem_cons.mpr ⟨lw_p34, List.forall_mem_cons.mpr ⟨lw_p35, List.forall_mem_cons.mpr ⟨lw_p36, fun _ h => absurd h List.not_mem_nil⟩⟩⟩⟩⟩
def lw_privs : List (MethodName × Nat) := lw_privs_1 ++ (lw_privs_2 ++ (lw_privs_3))
def lw_tbl : List Cond := k2_sels lw_privs ++ tables_1
theorem lw_privs_ok : ∀ q ∈ lw_privs, lw_okq q := by
  show ∀ q ∈ lw_privs_1 ++ (lw_privs_2 ++ (lw_privs_3)), lw_okq q
  exact List.forall_mem_append.mpr ⟨lw_r1, List.forall_mem_append.mpr ⟨lw_r2, lw_r3⟩⟩
end
section
/-! classes, methods and links of the claim, by their places in its tables; printed by wip/whole/gen2.py -/
def am_T0 : u_T := fun k => match k with
  | 0 => ("WhoIsWho", "told", "LWhoIsWho$Told;", true)
  | 1 => ("WhoIsWho", "keeper", "LWhoIsWho$Keeper;", true)
  | _ => ("WhoIsWho", "measured", "LWhoIsWho$Level;", true)
def am_Y0 : Nat → FieldType := fun k => match k with
  | 0 => .object "WhoIsWho$Told"
  | 1 => .object "WhoIsWho$Keeper"
  | _ => .object "WhoIsWho$Level"
def am_T1 : u_T := fun k => match k with
  | 0 => ("WhoIsWho$Told", "changed", "Z", false)
  | 1 => ("WhoIsWho$Told", "watchers", "I", false)
  | 2 => ("WhoIsWho$Told", "scanCount", "I", false)
  | 3 => ("WhoIsWho$Told", "shiftX", "[I", true)
  | 4 => ("WhoIsWho$Told", "shiftY", "[I", true)
  | 5 => ("WhoIsWho$Told", "scans", "[LWhoIsWho$Scan;", true)
  | 6 => ("WhoIsWho$Told", "order", "[I", true)
  | 7 => ("WhoIsWho$Told", "rules", "[I", true)
  | _ => ("WhoIsWho$Told", "kinds", "[I", true)
def am_Y1 : Nat → FieldType := fun k => match k with
  | 0 => .boolean
  | 1 => .int
  | 2 => .int
  | 3 => .array .int
  | 4 => .array .int
  | 5 => .array (.object "WhoIsWho$Scan")
  | 6 => .array .int
  | 7 => .array .int
  | _ => .array .int
def am_T2 : u_T := fun k => match k with
  | 0 => ("WhoIsWho$Keeper", "kept", "[LWhoIsWho$World;", false)
  | 1 => ("WhoIsWho$Keeper", "keptCount", "I", false)
  | 2 => ("WhoIsWho$Keeper", "spare", "[LWhoIsWho$World;", false)
  | _ => ("WhoIsWho$Keeper", "dealer", "LWhoIsWho$Dealer;", true)
def am_Y2 : Nat → FieldType := fun k => match k with
  | 0 => .array (.object "WhoIsWho$World")
  | 1 => .int
  | 2 => .array (.object "WhoIsWho$World")
  | _ => .object "WhoIsWho$Dealer"
def am_T3 : u_T := fun k => match k with
  | 0 => ("WhoIsWho$Dealer", "shortlist", "LWhoIsWho$Shortlist;", true)
  | 1 => ("WhoIsWho$Dealer", "miss", "I", false)
  | 2 => ("WhoIsWho$Dealer", "birth", "I", false)
  | 3 => ("WhoIsWho$Dealer", "falsely", "I", false)
  | 4 => ("WhoIsWho$Dealer", "gateSquare", "J", false)
  | 5 => ("WhoIsWho$Dealer", "parent", "I", false)
  | 6 => ("WhoIsWho$Dealer", "trackCount", "I", false)
  | 7 => ("WhoIsWho$Dealer", "dots", "I", false)
  | 8 => ("WhoIsWho$Dealer", "tolls", "[I", true)
  | 9 => ("WhoIsWho$Dealer", "leastFrom", "[I", true)
  | 10 => ("WhoIsWho$Dealer", "picks", "[I", true)
  | _ => ("WhoIsWho$Dealer", "taken", "[Z", true)
def am_Y3 : Nat → FieldType := fun k => match k with
  | 0 => .object "WhoIsWho$Shortlist"
  | 1 => .int
  | 2 => .int
  | 3 => .int
  | 4 => .long
  | 5 => .int
  | 6 => .int
  | 7 => .int
  | 8 => .array .int
  | 9 => .array .int
  | 10 => .array .int
  | _ => .array .boolean
def am_T4 : u_T := fun k => match k with
  | 0 => ("WhoIsWho$Shortlist", "length", "I", false)
  | 1 => ("WhoIsWho$Shortlist", "most", "I", false)
  | _ => ("WhoIsWho$Shortlist", "joins", "[LWhoIsWho$Join;", true)
def am_Y4 : Nat → FieldType := fun k => match k with
  | 0 => .int
  | 1 => .int
  | _ => .array (.object "WhoIsWho$Join")
def am_T5 : u_T := fun k => match k with
  | 0 => ("WhoIsWho$Level", "pairCount", "I", false)
  | 1 => ("WhoIsWho$Level", "sumX", "I", false)
  | _ => ("WhoIsWho$Level", "sumY", "I", false)
def am_Y5 : Nat → FieldType := fun k => match k with
  | 0 => .int
  | 1 => .int
  | _ => .int
def am_T6 : u_T := fun k => match k with
  | 0 => ("WhoIsWho$Scan", "watcher", "I", false)
  | 1 => ("WhoIsWho$Scan", "moment", "I", false)
  | 2 => ("WhoIsWho$Scan", "dots", "I", false)
  | 3 => ("WhoIsWho$Scan", "x", "[I", true)
  | 4 => ("WhoIsWho$Scan", "y", "[I", true)
  | _ => ("WhoIsWho$Scan", "mark", "[I", true)
def am_Y6 : Nat → FieldType := fun k => match k with
  | 0 => .int
  | 1 => .int
  | 2 => .int
  | 3 => .array .int
  | 4 => .array .int
  | _ => .array .int
def am_T7 : u_T := fun k => match k with
  | 0 => ("WhoIsWho$Join", "parent", "I", false)
  | 1 => ("WhoIsWho$Join", "total", "I", false)
  | _ => ("WhoIsWho$Join", "picks", "[I", true)
def am_Y7 : Nat → FieldType := fun k => match k with
  | 0 => .int
  | 1 => .int
  | _ => .array .int
def am_T8 : u_T := fun k => match k with
  | 0 => ("WhoIsWho$World", "total", "I", false)
  | 1 => ("WhoIsWho$World", "trackCount", "I", false)
  | 2 => ("WhoIsWho$World", "tracks", "[LWhoIsWho$Track;", true)
  | _ => ("WhoIsWho$World", "accounts", "[I", true)
def am_Y8 : Nat → FieldType := fun k => match k with
  | 0 => .int
  | 1 => .int
  | 2 => .array (.object "WhoIsWho$Track")
  | _ => .array .int
def am_T9 : u_T := fun k => match k with
  | 0 => ("WhoIsWho$Track", "x", "I", false)
  | 1 => ("WhoIsWho$Track", "y", "I", false)
  | 2 => ("WhoIsWho$Track", "u", "I", false)
  | 3 => ("WhoIsWho$Track", "v", "I", false)
  | 4 => ("WhoIsWho$Track", "latest", "I", false)
  | 5 => ("WhoIsWho$Track", "hits", "I", false)
  | 6 => ("WhoIsWho$Track", "missed", "I", false)
  | 7 => ("WhoIsWho$Track", "mark", "I", false)
  | _ => ("WhoIsWho$Track", "ended", "Z", false)
def am_Y9 : Nat → FieldType := fun k => match k with
  | 0 => .int
  | 1 => .int
  | 2 => .int
  | 3 => .int
  | 4 => .int
  | 5 => .int
  | 6 => .int
  | 7 => .int
  | _ => .boolean
def am_T10 : u_T := fun k => match k with
  | 0 => ("WhoIsWhoModel", "watchers", "I", false)
  | 1 => ("WhoIsWhoModel", "scans", "I", false)
  | 2 => ("WhoIsWhoModel", "waiting", "I", false)
  | 3 => ("WhoIsWhoModel", "shiftA", "[I", true)
  | 4 => ("WhoIsWhoModel", "shiftB", "[I", true)
  | 5 => ("WhoIsWhoModel", "watcherOf", "[I", true)
  | 6 => ("WhoIsWhoModel", "momentOf", "[I", true)
  | 7 => ("WhoIsWhoModel", "dots", "[I", true)
  | 8 => ("WhoIsWhoModel", "dotX", "[I", true)
  | 9 => ("WhoIsWhoModel", "dotY", "[I", true)
  | 10 => ("WhoIsWhoModel", "dotMark", "[I", true)
  | 11 => ("WhoIsWhoModel", "waitX", "[I", true)
  | 12 => ("WhoIsWhoModel", "waitY", "[I", true)
  | 13 => ("WhoIsWhoModel", "waitMark", "[I", true)
  | 14 => ("WhoIsWhoModel", "kinds", "[I", true)
  | 15 => ("WhoIsWhoModel", "rules", "[I", true)
  | 16 => ("WhoIsWhoModel", "isOld", "Z", false)
  | 17 => ("WhoIsWhoModel", "order", "[I", true)
  | 18 => ("WhoIsWhoModel", "kept", "I", false)
  | 19 => ("WhoIsWhoModel", "base", "I", false)
  | 20 => ("WhoIsWhoModel", "costs", "[I", true)
  | 21 => ("WhoIsWhoModel", "tracks", "[I", true)
  | 22 => ("WhoIsWhoModel", "accounts", "[I", true)
  | 23 => ("WhoIsWhoModel", "x", "[I", true)
  | 24 => ("WhoIsWhoModel", "y", "[I", true)
  | 25 => ("WhoIsWhoModel", "u", "[I", true)
  | 26 => ("WhoIsWhoModel", "v", "[I", true)
  | 27 => ("WhoIsWhoModel", "at", "[I", true)
  | 28 => ("WhoIsWhoModel", "hits", "[I", true)
  | 29 => ("WhoIsWhoModel", "missed", "[I", true)
  | 30 => ("WhoIsWhoModel", "mark", "[I", true)
  | 31 => ("WhoIsWhoModel", "ended", "[Z", true)
  | 32 => ("WhoIsWhoModel", "joins", "[I", true)
  | 33 => ("WhoIsWhoModel", "best", "I", false)
  | 34 => ("WhoIsWhoModel", "bestCost", "[I", true)
  | 35 => ("WhoIsWhoModel", "bestWorld", "[I", true)
  | 36 => ("WhoIsWhoModel", "bestJoin", "[I", true)
  | 37 => ("WhoIsWhoModel", "sumX", "I", false)
  | _ => ("WhoIsWhoModel", "sumY", "I", false)
def am_Y10 : Nat → FieldType := fun k => match k with
  | 0 => .int
  | 1 => .int
  | 2 => .int
  | 3 => .array .int
  | 4 => .array .int
  | 5 => .array .int
  | 6 => .array .int
  | 7 => .array .int
  | 8 => .array .int
  | 9 => .array .int
  | 10 => .array .int
  | 11 => .array .int
  | 12 => .array .int
  | 13 => .array .int
  | 14 => .array .int
  | 15 => .array .int
  | 16 => .boolean
  | 17 => .array .int
  | 18 => .int
  | 19 => .int
  | 20 => .array .int
  | 21 => .array .int
  | 22 => .array .int
  | 23 => .array .int
  | 24 => .array .int
  | 25 => .array .int
  | 26 => .array .int
  | 27 => .array .int
  | 28 => .array .int
  | 29 => .array .int
  | 30 => .array .int
  | 31 => .array .boolean
  | 32 => .array .int
  | 33 => .int
  | 34 => .array .int
  | 35 => .array .int
  | 36 => .array .int
  | 37 => .int
  | _ => .int
def am_on (c : Nat) : String := am_nth ["WhoIsWho", "WhoIsWho$Told", "WhoIsWho$Keeper", "WhoIsWho$Dealer", "WhoIsWho$Shortlist", "WhoIsWho$Level", "WhoIsWho$Scan", "WhoIsWho$Join", "WhoIsWho$World", "WhoIsWho$Track", "WhoIsWhoModel", "java/lang/Math", "WhoIsWhoLaw"] c ""
def am_cl : List vw_C := [("WhoIsWho", am_T0, 3), ("WhoIsWho$Told", am_T1, 9), ("WhoIsWho$Keeper", am_T2, 4), ("WhoIsWho$Dealer", am_T3, 12), ("WhoIsWho$Shortlist", am_T4, 3), ("WhoIsWho$Level", am_T5, 3), ("WhoIsWho$Scan", am_T6, 6), ("WhoIsWho$Join", am_T7, 3), ("WhoIsWho$World", am_T8, 4), ("WhoIsWho$Track", am_T9, 9), ("WhoIsWhoModel", am_T10, 39)]
def am_Tc (c : Nat) : u_T := am_nth [am_T0, am_T1, am_T2, am_T3, am_T4, am_T5, am_T6, am_T7, am_T8, am_T9, am_T10] c am_T0
def am_Yc (c : Nat) : Nat → FieldType := am_nth [am_Y0, am_Y1, am_Y2, am_Y3, am_Y4, am_Y5, am_Y6, am_Y7, am_Y8, am_Y9, am_Y10] c am_Y0
def am_Nc (c : Nat) : Nat := am_nth [3, 9, 4, 12, 3, 3, 6, 3, 4, 9, 39] c 0
def am_lp : List (List Nat) := [[353, 355, 357], [141, 143, 145, 147, 149, 151, 153, 155, 157], [324, 326, 328, 330], [226, 228, 230, 232, 234, 236, 238, 240, 242, 244, 246, 248], [206, 208, 210], [343, 345, 347], [95, 97, 99, 101, 103, 105], [194, 196, 198], [309, 311, 313, 315], [279, 281, 283, 285, 287, 289, 291, 293, 295], [764, 766, 768, 770, 772, 774, 776, 778, 780, 782, 784, 786, 788, 790, 792, 794, 796, 798, 800, 802, 804, 806, 808, 810, 812, 814, 816, 818, 820, 822, 824, 826, 828, 830, 832, 834, 836, 838, 840]]
def am_mnL : List MethodName := [⟨"WhoIsWho", "watcher", "()I"⟩, ⟨"WhoIsWho", "shift", "(III)I"⟩, ⟨"WhoIsWho", "dot", "(III)I"⟩, ⟨"WhoIsWho", "scan", "(II)I"⟩, ⟨"WhoIsWho", "drop", "(I)I"⟩, ⟨"WhoIsWho", "kind", "(II)I"⟩, ⟨"WhoIsWho", "rule", "(II)I"⟩, ⟨"WhoIsWho", "worlds", "()I"⟩, ⟨"WhoIsWho", "cost", "(I)I"⟩, ⟨"WhoIsWho", "gap", "(I)I"⟩, ⟨"WhoIsWho", "tracks", "(I)I"⟩, ⟨"WhoIsWho", "track", "(III)I"⟩, ⟨"WhoIsWho", "account", "(III)I"⟩, ⟨"WhoIsWho", "foretell", "(IIII)I"⟩, ⟨"WhoIsWho", "ordered", "(I)I"⟩, ⟨"WhoIsWho", "name", "(I)I"⟩, ⟨"WhoIsWho", "sure", "(II)I"⟩, ⟨"WhoIsWho", "alive", "(I)I"⟩, ⟨"WhoIsWho", "path", "(II)I"⟩, ⟨"WhoIsWho", "apart", "(III)I"⟩, ⟨"WhoIsWho", "near", "(III)I"⟩, ⟨"WhoIsWho", "pairs", "(II)I"⟩, ⟨"WhoIsWho", "level", "(III)I"⟩, ⟨"WhoIsWho", "right", "(II)I"⟩, ⟨"WhoIsWho", "count", "(I)I"⟩, ⟨"WhoIsWho", "within", "(III)Z"⟩, ⟨"WhoIsWho", "keptWithin", "(I)I"⟩, ⟨"WhoIsWho", "dotOfTrack", "(II)I"⟩, ⟨"WhoIsWho", "latestDot", "(II)I"⟩, ⟨"WhoIsWho", "squareApart", "(III)I"⟩, ⟨"WhoIsWho", "countFalse", "()I"⟩, ⟨"WhoIsWho", "countUnsure", "()I"⟩, ⟨"WhoIsWho$Told", "isWatcher", "(I)Z"⟩, ⟨"WhoIsWho$Told", "isScan", "(I)Z"⟩, ⟨"WhoIsWho$Told", "isDot", "(II)Z"⟩, ⟨"WhoIsWho$Told", "waiting", "()LWhoIsWho$Scan;"⟩, ⟨"WhoIsWho$Told", "closeWaiting", "(II)V"⟩, ⟨"WhoIsWho$Told", "remove", "(I)V"⟩, ⟨"WhoIsWho$Told", "sortOrder", "()V"⟩, ⟨"WhoIsWho$Told", "rightX", "(II)I"⟩, ⟨"WhoIsWho$Told", "rightY", "(II)I"⟩, ⟨"WhoIsWho$Told", "countDots", "()I"⟩, ⟨"WhoIsWho$Keeper", "refresh", "(LWhoIsWho$Told;)V"⟩, ⟨"WhoIsWho$Keeper", "takeIn", "(LWhoIsWho$Told;I)V"⟩, ⟨"WhoIsWho$Keeper", "isWorld", "(I)Z"⟩, ⟨"WhoIsWho$Keeper", "isTrack", "(II)Z"⟩, ⟨"WhoIsWho$Keeper", "allMark", "(II)Z"⟩, ⟨"WhoIsWho$Keeper", "allAgree", "(II)Z"⟩, ⟨"WhoIsWho$Dealer", "goBy", "([I)V"⟩, ⟨"WhoIsWho$Dealer", "deal", "(ILWhoIsWho$World;LWhoIsWho$Told;I)V"⟩, ⟨"WhoIsWho$Dealer", "setTolls", "(LWhoIsWho$World;LWhoIsWho$Told;I)V"⟩, ⟨"WhoIsWho$Dealer", "toll", "(JJ)I"⟩, ⟨"WhoIsWho$Dealer", "setLeast", "()V"⟩, ⟨"WhoIsWho$Dealer", "mayServe", "(III)Z"⟩, ⟨"WhoIsWho$Dealer", "dealFrom", "(LWhoIsWho$Dealer;IIII)V"⟩, ⟨"WhoIsWho$Shortlist", "open", "(I)V"⟩, ⟨"WhoIsWho$Shortlist", "takes", "(I)Z"⟩, ⟨"WhoIsWho$Shortlist", "offer", "(II[I)V"⟩, ⟨"WhoIsWho$Level", "measure", "(LWhoIsWho$Told;II)V"⟩, ⟨"WhoIsWho$Level", "addPairs", "(LWhoIsWho$Scan;LWhoIsWho$Scan;)V"⟩, ⟨"WhoIsWho$Level", "meanX", "()I"⟩, ⟨"WhoIsWho$Level", "meanY", "()I"⟩, ⟨"WhoIsWho$Scan", "add", "(III)V"⟩, ⟨"WhoIsWho$Join", "dotPickedFor", "(II)I"⟩, ⟨"WhoIsWho$World", "clear", "()V"⟩, ⟨"WhoIsWho$World", "copyFrom", "(LWhoIsWho$World;)V"⟩, ⟨"WhoIsWho$World", "accountOf", "(II)I"⟩, ⟨"WhoIsWho$World", "addTrack", "(IIII)I"⟩, ⟨"WhoIsWho$World", "countLookedFor", "()I"⟩, ⟨"WhoIsWho$World", "countAlive", "()I"⟩, ⟨"WhoIsWho$World", "hasMarked", "(II)Z"⟩, ⟨"WhoIsWho$World", "apply", "(LWhoIsWho$Join;LWhoIsWho$Told;I)V"⟩, ⟨"WhoIsWho$Track", "copyFrom", "(LWhoIsWho$Track;)V"⟩, ⟨"WhoIsWho$Track", "begin", "(IIII)V"⟩, ⟨"WhoIsWho$Track", "hit", "(IIII)V"⟩, ⟨"WhoIsWho$Track", "miss", "(I)V"⟩, ⟨"WhoIsWho$Track", "isConfirmed", "()Z"⟩, ⟨"WhoIsWho$Track", "mayBear", "(I)Z"⟩, ⟨"WhoIsWho$Track", "foretoldX", "(II)I"⟩, ⟨"WhoIsWho$Track", "foretoldY", "(II)I"⟩, ⟨"WhoIsWho$Track", "ahead", "(II)I"⟩, ⟨"WhoIsWho$Track", "read", "(I)I"⟩, ⟨"WhoIsWhoModel", "in", "(III)Z"⟩, ⟨"WhoIsWhoModel", "isWatcher", "(I)Z"⟩, ⟨"WhoIsWhoModel", "isScan", "(I)Z"⟩, ⟨"WhoIsWhoModel", "isDot", "(II)Z"⟩, ⟨"WhoIsWhoModel", "watcher", "()I"⟩, ⟨"WhoIsWhoModel", "shift", "(III)I"⟩, ⟨"WhoIsWhoModel", "dot", "(III)I"⟩, ⟨"WhoIsWhoModel", "scan", "(II)I"⟩, ⟨"WhoIsWhoModel", "drop", "(I)I"⟩, ⟨"WhoIsWhoModel", "kind", "(II)I"⟩, ⟨"WhoIsWhoModel", "rule", "(II)I"⟩, ⟨"WhoIsWhoModel", "sort", "()V"⟩, ⟨"WhoIsWhoModel", "rightX", "(II)I"⟩, ⟨"WhoIsWhoModel", "rightY", "(II)I"⟩, ⟨"WhoIsWhoModel", "foretold", "(IIZ)J"⟩, ⟨"WhoIsWhoModel", "findJoins", "(II)V"⟩, ⟨"WhoIsWhoModel", "digit", "(III)I"⟩, ⟨"WhoIsWhoModel", "costOf", "(III)I"⟩, ⟨"WhoIsWhoModel", "offer", "(III)V"⟩, ⟨"WhoIsWhoModel", "copyWorld", "(II)V"⟩, ⟨"WhoIsWhoModel", "cut", "(II)I"⟩, ⟨"WhoIsWhoModel", "begin", "(III)V"⟩, ⟨"WhoIsWhoModel", "goOn", "(III)V"⟩, ⟨"WhoIsWhoModel", "apply", "(III)V"⟩, ⟨"WhoIsWhoModel", "takeScan", "(I)V"⟩, ⟨"WhoIsWhoModel", "renew", "()V"⟩, ⟨"WhoIsWhoModel", "isWorld", "(I)Z"⟩, ⟨"WhoIsWhoModel", "isTrack", "(II)Z"⟩, ⟨"WhoIsWhoModel", "worlds", "()I"⟩, ⟨"WhoIsWhoModel", "cost", "(I)I"⟩, ⟨"WhoIsWhoModel", "gap", "(I)I"⟩, ⟨"WhoIsWhoModel", "tracks", "(I)I"⟩, ⟨"WhoIsWhoModel", "track", "(III)I"⟩, ⟨"WhoIsWhoModel", "accountOf", "(III)I"⟩, ⟨"WhoIsWhoModel", "account", "(III)I"⟩, ⟨"WhoIsWhoModel", "foretell", "(IIII)I"⟩, ⟨"WhoIsWhoModel", "ordered", "(I)I"⟩, ⟨"WhoIsWhoModel", "name", "(I)I"⟩, ⟨"WhoIsWhoModel", "isSure", "(II)Z"⟩, ⟨"WhoIsWhoModel", "sure", "(II)I"⟩, ⟨"WhoIsWhoModel", "alive", "(I)I"⟩, ⟨"WhoIsWhoModel", "path", "(II)I"⟩, ⟨"WhoIsWhoModel", "latest", "(II)I"⟩, ⟨"WhoIsWhoModel", "apartAt", "(III)I"⟩, ⟨"WhoIsWhoModel", "apart", "(III)I"⟩, ⟨"WhoIsWhoModel", "near", "(III)I"⟩, ⟨"WhoIsWhoModel", "pairsOf", "(II)I"⟩, ⟨"WhoIsWhoModel", "pairs", "(II)I"⟩, ⟨"WhoIsWhoModel", "level", "(III)I"⟩, ⟨"WhoIsWhoModel", "kept50", "(I)I"⟩, ⟨"WhoIsWhoModel", "right", "(II)I"⟩, ⟨"WhoIsWhoModel", "count", "(I)I"⟩, ⟨"java/lang/Math", "floorDiv", "(II)I"⟩, ⟨"java/lang/Math", "max", "(II)I"⟩, ⟨"java/lang/Math", "min", "(II)I"⟩, ⟨"WhoIsWhoLaw", "law", "([I)Z"⟩]
def am_mn (y : Nat) : MethodName := am_nth am_mnL y ⟨"", "", ""⟩
def am_bt (y : Nat) : ByteArray := (bif Nat.blt y 69 then (bif Nat.blt y 34 then (bif Nat.blt y 17 then (bif Nat.blt y 8 then (bif Nat.blt y 4 then (bif Nat.blt y 2 then (bif Nat.blt y 1 then prog_1_method_2_code else prog_1_method_3_code) else (bif Nat.blt y 3 then prog_1_method_4_code else prog_1_method_5_code)) else (bif Nat.blt y 6 then (bif Nat.blt y 5 then prog_1_method_6_code else prog_1_method_7_code) else (bif Nat.blt y 7 then prog_1_method_8_code else prog_1_method_9_code))) else (bif Nat.blt y 12 then (bif Nat.blt y 10 then (bif Nat.blt y 9 then prog_1_method_10_code else prog_1_method_11_code) else (bif Nat.blt y 11 then prog_1_method_12_code else prog_1_method_13_code)) else (bif Nat.blt y 14 then (bif Nat.blt y 13 then prog_1_method_14_code else prog_1_method_15_code) else (bif Nat.blt y 15 then prog_1_method_16_code else (bif Nat.blt y 16 then prog_1_method_17_code else prog_1_method_18_code))))) else (bif Nat.blt y 25 then (bif Nat.blt y 21 then (bif Nat.blt y 19 then (bif Nat.blt y 18 then prog_1_method_19_code else prog_1_method_20_code) else (bif Nat.blt y 20 then prog_1_method_21_code else prog_1_method_22_code)) else (bif Nat.blt y 23 then (bif Nat.blt y 22 then prog_1_method_23_code else prog_1_method_24_code) else (bif Nat.blt y 24 then prog_1_method_25_code else prog_1_method_26_code))) else (bif Nat.blt y 29 then (bif Nat.blt y 27 then (bif Nat.blt y 26 then prog_1_method_27_code else prog_1_method_28_code) else (bif Nat.blt y 28 then prog_1_method_29_code else prog_1_method_30_code)) else (bif Nat.blt y 31 then (bif Nat.blt y 30 then prog_1_method_31_code else prog_1_method_32_code) else (bif Nat.blt y 32 then prog_1_method_33_code else (bif Nat.blt y 33 then prog_8_method_2_code else prog_8_method_3_code)))))) else (bif Nat.blt y 51 then (bif Nat.blt y 42 then (bif Nat.blt y 38 then (bif Nat.blt y 36 then (bif Nat.blt y 35 then prog_8_method_4_code else prog_8_method_5_code) else (bif Nat.blt y 37 then prog_8_method_6_code else prog_8_method_7_code)) else (bif Nat.blt y 40 then (bif Nat.blt y 39 then prog_8_method_8_code else prog_8_method_9_code) else (bif Nat.blt y 41 then prog_8_method_10_code else prog_8_method_11_code))) else (bif Nat.blt y 46 then (bif Nat.blt y 44 then (bif Nat.blt y 43 then prog_4_method_2_code else prog_4_method_3_code) else (bif Nat.blt y 45 then prog_4_method_4_code else prog_4_method_5_code)) else (bif Nat.blt y 48 then (bif Nat.blt y 47 then prog_4_method_6_code else prog_4_method_7_code) else (bif Nat.blt y 49 then prog_2_method_2_code else (bif Nat.blt y 50 then prog_2_method_3_code else prog_2_method_4_code))))) else (bif Nat.blt y 60 then (bif Nat.blt y 55 then (bif Nat.blt y 53 then (bif Nat.blt y 52 then prog_2_method_5_code else prog_2_method_6_code) else (bif Nat.blt y 54 then prog_2_method_7_code else prog_2_method_8_code)) else (bif Nat.blt y 57 then (bif Nat.blt y 56 then prog_7_method_2_code else prog_7_method_3_code) else (bif Nat.blt y 58 then prog_7_method_4_code else (bif Nat.blt y 59 then prog_5_method_2_code else prog_5_method_3_code)))) else (bif Nat.blt y 64 then (bif Nat.blt y 62 then (bif Nat.blt y 61 then prog_5_method_4_code else prog_5_method_5_code) else (bif Nat.blt y 63 then prog_6_method_2_code else prog_3_method_2_code)) else (bif Nat.blt y 66 then (bif Nat.blt y 65 then prog_10_method_2_code else prog_10_method_3_code) else (bif Nat.blt y 67 then prog_10_method_4_code else (bif Nat.blt y 68 then prog_10_method_5_code else prog_10_method_6_code))))))) else (bif Nat.blt y 103 then (bif Nat.blt y 86 then (bif Nat.blt y 77 then (bif Nat.blt y 73 then (bif Nat.blt y 71 then (bif Nat.blt y 70 then prog_10_method_7_code else prog_10_method_8_code) else (bif Nat.blt y 72 then prog_10_method_9_code else prog_9_method_2_code)) else (bif Nat.blt y 75 then (bif Nat.blt y 74 then prog_9_method_3_code else prog_9_method_4_code) else (bif Nat.blt y 76 then prog_9_method_5_code else prog_9_method_6_code))) else (bif Nat.blt y 81 then (bif Nat.blt y 79 then (bif Nat.blt y 78 then prog_9_method_7_code else prog_9_method_8_code) else (bif Nat.blt y 80 then prog_9_method_9_code else prog_9_method_10_code)) else (bif Nat.blt y 83 then (bif Nat.blt y 82 then prog_9_method_11_code else prog_12_method_2_code) else (bif Nat.blt y 84 then prog_12_method_3_code else (bif Nat.blt y 85 then prog_12_method_4_code else prog_12_method_5_code))))) else (bif Nat.blt y 94 then (bif Nat.blt y 90 then (bif Nat.blt y 88 then (bif Nat.blt y 87 then prog_12_method_6_code else prog_12_method_7_code) else (bif Nat.blt y 89 then prog_12_method_8_code else prog_12_method_9_code)) else (bif Nat.blt y 92 then (bif Nat.blt y 91 then prog_12_method_10_code else prog_12_method_11_code) else (bif Nat.blt y 93 then prog_12_method_12_code else prog_12_method_13_code))) else (bif Nat.blt y 98 then (bif Nat.blt y 96 then (bif Nat.blt y 95 then prog_12_method_14_code else prog_12_method_15_code) else (bif Nat.blt y 97 then prog_12_method_16_code else prog_12_method_17_code)) else (bif Nat.blt y 100 then (bif Nat.blt y 99 then prog_12_method_18_code else prog_12_method_19_code) else (bif Nat.blt y 101 then prog_12_method_20_code else (bif Nat.blt y 102 then prog_12_method_21_code else prog_12_method_22_code)))))) else (bif Nat.blt y 120 then (bif Nat.blt y 111 then (bif Nat.blt y 107 then (bif Nat.blt y 105 then (bif Nat.blt y 104 then prog_12_method_23_code else prog_12_method_24_code) else (bif Nat.blt y 106 then prog_12_method_25_code else prog_12_method_26_code)) else (bif Nat.blt y 109 then (bif Nat.blt y 108 then prog_12_method_27_code else prog_12_method_28_code) else (bif Nat.blt y 110 then prog_12_method_29_code else prog_12_method_30_code))) else (bif Nat.blt y 115 then (bif Nat.blt y 113 then (bif Nat.blt y 112 then prog_12_method_31_code else prog_12_method_32_code) else (bif Nat.blt y 114 then prog_12_method_33_code else prog_12_method_34_code)) else (bif Nat.blt y 117 then (bif Nat.blt y 116 then prog_12_method_35_code else prog_12_method_36_code) else (bif Nat.blt y 118 then prog_12_method_37_code else (bif Nat.blt y 119 then prog_12_method_38_code else prog_12_method_39_code))))) else (bif Nat.blt y 129 then (bif Nat.blt y 124 then (bif Nat.blt y 122 then (bif Nat.blt y 121 then prog_12_method_40_code else prog_12_method_41_code) else (bif Nat.blt y 123 then prog_12_method_42_code else prog_12_method_43_code)) else (bif Nat.blt y 126 then (bif Nat.blt y 125 then prog_12_method_44_code else prog_12_method_45_code) else (bif Nat.blt y 127 then prog_12_method_46_code else (bif Nat.blt y 128 then prog_12_method_47_code else prog_12_method_48_code)))) else (bif Nat.blt y 133 then (bif Nat.blt y 131 then (bif Nat.blt y 130 then prog_12_method_49_code else prog_12_method_50_code) else (bif Nat.blt y 132 then prog_12_method_51_code else prog_12_method_52_code)) else (bif Nat.blt y 135 then (bif Nat.blt y 134 then prog_12_method_53_code else prog_13_method_47_code) else (bif Nat.blt y 136 then prog_13_method_65_code else (bif Nat.blt y 137 then prog_13_method_69_code else code))))))))
def am_rtL : List (Option FieldType) := [some .int, some .int, some .int, some .int, some .int, some .int, some .int, some .int, some .int, some .int, some .int, some .int, some .int, some .int, some .int, some .int, some .int, some .int, some .int, some .int, some .int, some .int, some .int, some .int, some .int, some .boolean, some .int, some .int, some .int, some .int, some .int, some .int, some .boolean, some .boolean, some .boolean, some (.object "WhoIsWho$Scan"), none, none, none, some .int, some .int, some .int, none, none, some .boolean, some .boolean, some .boolean, some .boolean, none, none, none, some .int, none, some .boolean, none, none, some .boolean, none, none, none, some .int, some .int, none, some .int, none, none, some .int, some .int, some .int, some .int, some .boolean, none, none, none, none, none, some .boolean, some .boolean, some .int, some .int, some .int, some .int, some .boolean, some .boolean, some .boolean, some .boolean, some .int, some .int, some .int, some .int, some .int, some .int, some .int, none, some .int, some .int, some .long, none, some .int, some .int, none, none, some .int, none, none, none, none, none, some .boolean, some .boolean, some .int, some .int, some .int, some .int, some .int, some .int, some .int, some .int, some .int, some .int, some .boolean, some .int, some .int, some .int, some .int, some .int, some .int, some .int, some .int, some .int, some .int, some .int, some .int, some .int, some .int, some .int, some .int, some .boolean]
def am_rtT (y : Nat) : Option FieldType := am_nth am_rtL y none
def am_np (y : Nat) : Nat := am_nth [0, 3, 3, 2, 1, 2, 2, 0, 1, 1, 1, 3, 3, 4, 1, 1, 2, 1, 2, 3, 3, 2, 3, 2, 1, 3, 1, 2, 2, 3, 0, 0, 1, 1, 2, 0, 2, 1, 0, 2, 2, 0, 1, 2, 1, 2, 2, 2, 1, 4, 3, 2, 0, 3, 5, 1, 1, 3, 3, 2, 0, 0, 3, 2, 0, 1, 2, 4, 0, 0, 2, 3, 1, 4, 4, 1, 0, 1, 2, 2, 2, 1, 3, 1, 1, 2, 0, 3, 3, 2, 1, 2, 2, 0, 2, 2, 3, 2, 3, 3, 3, 2, 2, 3, 3, 3, 1, 0, 1, 2, 0, 1, 1, 1, 3, 3, 3, 4, 1, 1, 2, 2, 1, 2, 2, 3, 3, 3, 2, 2, 3, 1, 2, 1, 2, 2, 2, 1] y 0
def am_mw : List (Nat × Nat × Nat × Nat) := [(363, 361, 362, 38), (367, 365, 366, 38), (378, 376, 377, 38), (390, 388, 389, 38), (398, 396, 397, 38), (411, 409, 410, 38), (415, 413, 414, 38), (423, 421, 422, 38), (558, 556, 557, 38), (567, 565, 566, 38), (571, 569, 570, 38), (575, 573, 574, 38), (593, 591, 592, 38), (605, 603, 604, 38), (611, 609, 610, 38), (615, 613, 614, 38), (627, 625, 626, 38), (636, 634, 635, 38), (645, 643, 644, 38), (653, 651, 652, 38), (667, 665, 666, 38), (671, 669, 670, 38), (683, 681, 682, 38), (697, 695, 696, 38), (706, 704, 705, 38), (374, 373, 0, 38), (700, 699, 0, 38), (649, 648, 5, 38), (661, 660, 7, 38), (657, 656, 6, 38), (714, 713, 8, 38), (718, 717, 9, 38), (371, 369, 370, 39), (402, 400, 401, 39), (597, 595, 596, 39), (382, 380, 381, 39), (394, 392, 393, 39), (406, 404, 405, 39), (431, 429, 430, 39), (481, 479, 480, 39), (485, 483, 484, 39), (710, 708, 709, 39), (427, 425, 426, 42), (443, 442, 0, 42), (562, 560, 561, 42), (579, 577, 578, 42), (619, 617, 618, 42), (631, 629, 630, 42), (435, 433, 434, 43), (457, 455, 456, 43), (461, 460, 1, 43), (489, 488, 2, 43), (493, 492, 3, 43), (514, 513, 4, 43), (501, 500, 0, 43), (447, 445, 446, 44), (509, 507, 508, 44), (505, 503, 504, 44), (675, 673, 674, 48), (679, 677, 678, 48), (687, 685, 686, 48), (693, 691, 692, 48), (386, 384, 385, 40), (533, 531, 532, 45), (439, 437, 438, 46), (520, 518, 519, 46), (601, 599, 600, 46), (550, 548, 549, 46), (498, 496, 497, 46), (640, 638, 639, 46), (623, 621, 622, 46), (529, 527, 528, 46), (524, 522, 523, 47), (554, 552, 553, 47), (539, 537, 538, 47), (546, 544, 545, 47), (588, 586, 587, 47), (477, 475, 476, 47), (465, 463, 464, 47), (473, 471, 472, 47), (469, 467, 468, 47), (584, 582, 583, 47), (858, 857, 11, 49), (854, 853, 10, 49), (874, 873, 12, 49), (980, 979, 30, 49), (846, 844, 845, 49), (850, 848, 849, 49), (862, 860, 861, 49), (866, 864, 865, 49), (870, 868, 869, 49), (878, 876, 877, 49), (882, 880, 881, 49), (895, 894, 14, 49), (907, 906, 17, 49), (915, 914, 19, 49), (911, 910, 18, 49), (903, 902, 16, 49), (923, 922, 21, 49), (919, 918, 20, 49), (927, 926, 22, 49), (931, 930, 23, 49), (947, 946, 27, 49), (939, 938, 25, 49), (943, 942, 26, 49), (935, 934, 24, 49), (899, 898, 15, 49), (891, 890, 13, 49), (955, 954, 28, 49), (972, 971, 29, 49), (887, 885, 886, 49), (951, 949, 950, 49), (960, 958, 959, 49), (964, 962, 963, 49), (968, 966, 967, 49), (984, 983, 31, 49), (976, 974, 975, 49), (988, 986, 987, 49), (992, 990, 991, 49), (996, 994, 995, 49), (1004, 1003, 32, 49), (1000, 998, 999, 49), (1008, 1006, 1007, 49), (1012, 1010, 1011, 49), (1024, 1023, 34, 49), (1020, 1019, 33, 49), (1016, 1014, 1015, 49), (1028, 1026, 1027, 49), (1036, 1035, 35, 49), (1032, 1030, 1031, 49), (1040, 1038, 1039, 49), (1048, 1047, 36, 49), (1044, 1042, 1043, 49), (1052, 1050, 1051, 49), (542, 541, 0, 50), (453, 452, 0, 50), (450, 449, 0, 50)]
def am_mp (y : Nat) : Nat × Nat × Nat × Nat := am_nth am_mw y (0, 0, 0, 0)
/-- links of fields: own class, index, class, field, place -/
def am_fl : List (Nat × Nat × Nat × Nat × Nat) := [(5, 30, 6, 0, 72), (1, 57, 6, 0, 73), (5, 35, 6, 1, 74), (3, 97, 6, 1, 75), (1, 60, 6, 1, 76), (8, 77, 6, 1, 77), (0, 174, 6, 1, 78), (6, 21, 6, 2, 79), (5, 42, 6, 2, 80), (3, 61, 6, 2, 81), (1, 54, 6, 2, 82), (0, 59, 6, 2, 83), (8, 60, 6, 2, 84), (6, 9, 6, 3, 85), (5, 49, 6, 3, 86), (1, 63, 6, 3, 87), (6, 15, 6, 4, 88), (5, 52, 6, 4, 89), (1, 66, 6, 4, 90), (6, 18, 6, 5, 91), (5, 45, 6, 5, 92), (3, 111, 6, 5, 93), (8, 80, 6, 5, 94), (2, 32, 1, 0, 114), (0, 51, 1, 0, 115), (0, 32, 1, 1, 116), (1, 43, 1, 1, 117), (5, 21, 1, 2, 118), (2, 52, 1, 2, 119), (1, 47, 1, 2, 120), (0, 68, 1, 2, 121), (1, 9, 1, 3, 122), (0, 44, 1, 3, 123), (1, 15, 1, 4, 124), (0, 48, 1, 4, 125), (1, 20, 1, 5, 126), (5, 26, 1, 5, 127), (3, 55, 1, 5, 128), (8, 54, 1, 5, 129), (0, 170, 1, 5, 130), (1, 24, 1, 6, 131), (2, 55, 1, 6, 132), (0, 150, 1, 6, 133), (1, 27, 1, 7, 134), (2, 41, 1, 7, 135), (0, 91, 1, 7, 136), (8, 85, 1, 7, 137), (1, 30, 1, 8, 138), (3, 89, 1, 8, 139), (0, 82, 1, 8, 140), (2, 83, 7, 0, 187), (4, 41, 7, 0, 188), (4, 34, 7, 1, 189), (8, 99, 7, 1, 190), (7, 9, 7, 2, 191), (4, 44, 7, 2, 192), (8, 92, 7, 2, 193), (4, 18, 4, 0, 201), (2, 76, 4, 0, 202), (4, 31, 4, 1, 203), (4, 11, 4, 2, 204), (2, 79, 4, 2, 205), (3, 12, 3, 0, 213), (2, 62, 3, 0, 214), (3, 32, 3, 1, 215), (3, 36, 3, 2, 216), (3, 39, 3, 3, 217), (3, 42, 3, 4, 218), (3, 46, 3, 5, 219), (3, 54, 3, 6, 220), (3, 66, 3, 7, 221), (3, 18, 3, 8, 222), (3, 22, 3, 9, 223), (3, 25, 3, 10, 224), (3, 28, 3, 11, 225), (9, 9, 9, 0, 264), (9, 15, 9, 1, 265), (9, 18, 9, 2, 266), (9, 21, 9, 3, 267), (9, 24, 9, 4, 268), (0, 138, 9, 4, 269), (9, 27, 9, 5, 270), (9, 30, 9, 6, 271), (9, 33, 9, 7, 272), (3, 92, 9, 7, 273), (8, 51, 9, 7, 274), (0, 141, 9, 7, 275), (9, 36, 9, 8, 276), (3, 107, 9, 8, 277), (8, 43, 9, 8, 278), (8, 22, 8, 0, 298), (3, 74, 8, 0, 299), (0, 108, 8, 0, 300), (8, 26, 8, 1, 301), (3, 49, 8, 1, 302), (2, 100, 8, 1, 303), (0, 114, 8, 1, 304), (8, 11, 8, 2, 305), (3, 85, 8, 2, 306), (0, 121, 8, 2, 307), (8, 17, 8, 3, 308), (2, 11, 2, 0, 318), (0, 104, 2, 0, 319), (2, 28, 2, 1, 320), (0, 98, 2, 1, 321), (2, 17, 2, 2, 322), (2, 23, 2, 3, 323), (5, 9, 5, 0, 339), (0, 181, 5, 0, 340), (5, 15, 5, 1, 341), (5, 18, 5, 2, 342), (0, 12, 0, 0, 350), (0, 21, 0, 1, 351), (0, 28, 0, 2, 352), (10, 7, 10, 0, 725), (10, 13, 10, 1, 726), (10, 16, 10, 2, 727), (10, 19, 10, 3, 728), (10, 23, 10, 4, 729), (10, 26, 10, 5, 730), (10, 29, 10, 6, 731), (10, 32, 10, 7, 732), (10, 35, 10, 8, 733), (10, 38, 10, 9, 734), (10, 41, 10, 10, 735), (10, 44, 10, 11, 736), (10, 47, 10, 12, 737), (10, 50, 10, 13, 738), (10, 53, 10, 14, 739), (10, 56, 10, 15, 740), (10, 59, 10, 16, 741), (10, 63, 10, 17, 742), (10, 66, 10, 18, 743), (10, 69, 10, 19, 744), (10, 72, 10, 20, 745), (10, 75, 10, 21, 746), (10, 78, 10, 22, 747), (10, 81, 10, 23, 748), (10, 84, 10, 24, 749), (10, 87, 10, 25, 750), (10, 90, 10, 26, 751), (10, 93, 10, 27, 752), (10, 96, 10, 28, 753), (10, 99, 10, 29, 754), (10, 102, 10, 30, 755), (10, 105, 10, 31, 756), (10, 109, 10, 32, 757), (10, 112, 10, 33, 758), (10, 115, 10, 34, 759), (10, 118, 10, 35, 760), (10, 121, 10, 36, 761), (10, 124, 10, 37, 762), (10, 127, 10, 38, 763)]
def am_mk : List (Nat × Nat × Nat × Nat) := [(12, 13, 0, 360), (12, 18, 1, 364), (0, 36, 32, 368), (0, 40, 25, 372), (12, 23, 2, 375), (0, 55, 35, 379), (0, 64, 62, 383), (12, 27, 3, 387), (0, 71, 36, 391), (12, 32, 4, 395), (0, 75, 33, 399), (0, 78, 37, 403), (1, 50, 33, 407), (12, 37, 5, 408), (12, 41, 6, 412), (12, 45, 7, 420), (0, 94, 42, 424), (2, 38, 38, 428), (2, 45, 48, 432), (2, 49, 64, 436), (2, 58, 43, 440), (2, 66, 55, 444), (4, 22, 136, 448), (4, 28, 135, 451), (2, 72, 49, 454), (3, 67, 50, 458), (3, 100, 78, 462), (9, 46, 80, 466), (3, 104, 79, 470), (3, 113, 77, 474), (3, 117, 39, 478), (3, 120, 40, 482), (3, 123, 51, 486), (3, 71, 52, 490), (3, 127, 136, 494), (3, 77, 68, 495), (3, 81, 54, 499), (3, 138, 57, 502), (4, 37, 56, 506), (3, 142, 53, 511), (3, 132, 135, 515), (3, 135, 56, 516), (2, 88, 65, 517), (8, 29, 72, 521), (2, 92, 71, 526), (8, 65, 63, 530), (8, 71, 39, 534), (8, 74, 40, 535), (8, 82, 74, 536), (9, 40, 134, 540), (8, 88, 75, 543), (8, 95, 67, 547), (8, 39, 73, 551), (12, 49, 8, 555), (0, 101, 44, 559), (12, 53, 9, 564), (12, 57, 10, 568), (12, 61, 11, 572), (0, 117, 45, 576), (2, 96, 44, 580), (0, 125, 81, 581), (9, 49, 76, 585), (12, 65, 12, 590), (0, 131, 34, 594), (0, 134, 66, 598), (12, 69, 13, 602), (0, 144, 78, 606), (0, 147, 79, 607), (12, 74, 14, 608), (12, 78, 15, 612), (0, 153, 46, 616), (2, 103, 70, 620), (12, 82, 16, 624), (0, 156, 47, 628), (2, 107, 66, 632), (12, 86, 17, 633), (0, 159, 69, 637), (8, 47, 76, 641), (12, 90, 18, 642), (0, 163, 27, 646), (12, 94, 19, 650), (0, 166, 29, 654), (0, 210, 28, 658), (0, 213, 39, 662), (0, 216, 40, 663), (12, 98, 20, 664), (12, 102, 21, 668), (0, 177, 58, 672), (5, 38, 59, 676), (12, 106, 22, 680), (0, 184, 60, 684), (5, 55, 134, 688), (0, 187, 61, 690), (12, 110, 23, 694), (0, 190, 26, 698), (0, 202, 136, 701), (0, 207, 135, 702), (12, 114, 24, 703), (0, 193, 41, 707), (0, 196, 30, 711), (0, 199, 31, 715), (12, 17, 86, 843), (12, 22, 87, 847), (10, 138, 83, 851), (10, 130, 82, 855), (12, 26, 88, 859), (12, 31, 89, 863), (12, 36, 90, 867), (10, 134, 84, 871), (12, 40, 91, 875), (12, 44, 92, 879), (12, 48, 110, 884), (10, 190, 107, 888), (10, 183, 93, 892), (10, 186, 106, 896), (10, 167, 97, 900), (10, 142, 94, 904), (10, 146, 96, 908), (10, 150, 95, 912), (10, 171, 99, 916), (10, 153, 98, 920), (10, 174, 100, 924), (10, 177, 101, 928), (10, 180, 105, 932), (10, 160, 103, 936), (10, 164, 104, 940), (10, 157, 102, 944), (12, 52, 111, 948), (10, 193, 108, 952), (12, 56, 112, 957), (12, 60, 113, 961), (12, 64, 114, 965), (10, 197, 109, 969), (12, 68, 116, 973), (10, 201, 85, 977), (10, 204, 115, 981), (12, 73, 117, 985), (12, 77, 118, 989), (12, 81, 119, 993), (12, 85, 121, 997), (10, 207, 120, 1001), (12, 89, 122, 1005), (12, 93, 123, 1009), (12, 97, 126, 1013), (10, 213, 125, 1017), (10, 210, 124, 1021), (12, 101, 127, 1025), (12, 105, 129, 1029), (10, 216, 128, 1033), (12, 109, 130, 1037), (12, 113, 132, 1041), (10, 219, 131, 1045), (12, 117, 133, 1049)]
def am_ak : List (Nat × Nat × Nat) := [(1, 37, 111), (4, 48, 510), (8, 33, 525)]
def am_sk : List (Nat × Nat × Nat × Nat) := [(0, 85, 59, 416), (0, 88, 60, 418)]
def am_kk : List (Nat × Nat × Int32 × Nat) := [(0, 113, (-2147483648), 563), (9, 53, (-2147483648), 589), (5, 61, (-2147483648), 689), (10, 141, 100000, 883), (10, 196, (-2147483648), 956)]
def am_nw : Nat × Nat × Nat := (113, 112, 41)
def am_rnm (f : Nat) : String := bif Nat.beq f 59 then "RULE_LEAST" else "RULE_MOST"
end
section
/-! what a program decides of the tables -/
set_option maxRecDepth 100000
theorem am_lp_ok : ∀ c, c < 11 → u_ws (am_on c) (am_Tc c) (am_Nc c) = (am_nth am_lp c []).filterMap (fun i => lw_tbl[i]?) := by decide +kernel
theorem am_cl_ok : ∀ c, c < 11 → (am_cl[c]?).map (fun q => (q.1, q.2.2)) = some (am_on c, am_Nc c) := by decide +kernel
theorem am_nm_ok : ∀ c, c < 11 → ∀ a, a < am_Nc c → ∀ b, b < am_Nc c → a ≠ b → (am_Tc c a).2.1 ≠ (am_Tc c b).2.1 := by decide +kernel
theorem am_ty_ok : ∀ c, c < 11 → ∀ k, k < am_Nc c → parseFieldDescriptor (am_Tc c k).2.2.1 = some (am_Yc c k) := by decide +kernel
theorem am_decl_ok : ∀ c, c < 11 → ∀ k, k < am_Nc c → (am_Tc c k).1 = am_on c := by decide +kernel
theorem am_mw_ok : ∀ y, y < 137 → lw_tbl[(am_mp y).1]? = some (.code (am_mn y) (am_bt y) (am_ml y) (am_rtT y)) := fun y h => match y, h with
  | 0, _ => rfl
  | 1, _ => rfl
  | 2, _ => rfl
  | 3, _ => rfl
  | 4, _ => rfl
  | 5, _ => rfl
  | 6, _ => rfl
  | 7, _ => rfl
  | 8, _ => rfl
  | 9, _ => rfl
  | 10, _ => rfl
  | 11, _ => rfl
  | 12, _ => rfl
  | 13, _ => rfl
  | 14, _ => rfl
  | 15, _ => rfl
  | 16, _ => rfl
  | 17, _ => rfl
  | 18, _ => rfl
  | 19, _ => rfl
  | 20, _ => rfl
  | 21, _ => rfl
  | 22, _ => rfl
  | 23, _ => rfl
  | 24, _ => rfl
  | 25, _ => rfl
  | 26, _ => rfl
  | 27, _ => rfl
  | 28, _ => rfl
  | 29, _ => rfl
  | 30, _ => rfl
  | 31, _ => rfl
  | 32, _ => rfl
  | 33, _ => rfl
  | 34, _ => rfl
  | 35, _ => rfl
  | 36, _ => rfl
  | 37, _ => rfl
  | 38, _ => rfl
  | 39, _ => rfl
  | 40, _ => rfl
  | 41, _ => rfl
  | 42, _ => rfl
  | 43, _ => rfl
  | 44, _ => rfl
  | 45, _ => rfl
  | 46, _ => rfl
  | 47, _ => rfl
  | 48, _ => rfl
  | 49, _ => rfl
  | 50, _ => rfl
  | 51, _ => rfl
  | 52, _ => rfl
  | 53, _ => rfl
  | 54, _ => rfl
  | 55, _ => rfl
  | 56, _ => rfl
  | 57, _ => rfl
  | 58, _ => rfl
  | 59, _ => rfl
  | 60, _ => rfl
  | 61, _ => rfl
  | 62, _ => rfl
  | 63, _ => rfl
  | 64, _ => rfl
  | 65, _ => rfl
  | 66, _ => rfl
  | 67, _ => rfl
  | 68, _ => rfl
  | 69, _ => rfl
  | 70, _ => rfl
  | 71, _ => rfl
  | 72, _ => rfl
  | 73, _ => rfl
  | 74, _ => rfl
  | 75, _ => rfl
  | 76, _ => rfl
  | 77, _ => rfl
  | 78, _ => rfl
  | 79, _ => rfl
  | 80, _ => rfl
  | 81, _ => rfl
  | 82, _ => rfl
  | 83, _ => rfl
  | 84, _ => rfl
  | 85, _ => rfl
  | 86, _ => rfl
  | 87, _ => rfl
  | 88, _ => rfl
  | 89, _ => rfl
  | 90, _ => rfl
  | 91, _ => rfl
  | 92, _ => rfl
  | 93, _ => rfl
  | 94, _ => rfl
  | 95, _ => rfl
  | 96, _ => rfl
  | 97, _ => rfl
  | 98, _ => rfl
  | 99, _ => rfl
  | 100, _ => rfl
  | 101, _ => rfl
  | 102, _ => rfl
  | 103, _ => rfl
  | 104, _ => rfl
  | 105, _ => rfl
  | 106, _ => rfl
  | 107, _ => rfl
  | 108, _ => rfl
  | 109, _ => rfl
  | 110, _ => rfl
  | 111, _ => rfl
  | 112, _ => rfl
  | 113, _ => rfl
  | 114, _ => rfl
  | 115, _ => rfl
  | 116, _ => rfl
  | 117, _ => rfl
  | 118, _ => rfl
  | 119, _ => rfl
  | 120, _ => rfl
  | 121, _ => rfl
  | 122, _ => rfl
  | 123, _ => rfl
  | 124, _ => rfl
  | 125, _ => rfl
  | 126, _ => rfl
  | 127, _ => rfl
  | 128, _ => rfl
  | 129, _ => rfl
  | 130, _ => rfl
  | 131, _ => rfl
  | 132, _ => rfl
  | 133, _ => rfl
  | 134, _ => rfl
  | 135, _ => rfl
  | 136, _ => rfl
  | n + 137, h => absurd h (by omega)
theorem am_mw_st : ∀ y, y < 137 → am_mi y = 0 → lw_tbl[(am_mp y).2.1]? = some (.static (am_mn y)) := by decide +kernel
theorem am_mw_in : ∀ y, y < 137 → am_mi y = 1 → lw_tbl[(am_mp y).2.1]? = some (.instanceMethod (am_mn y)) ∧ lw_tbl[(am_mp y).2.2.1]? = some (.selects (am_on (am_mc y)) (am_mn y) (am_mn y)) := by decide +kernel
theorem am_mw_it : ∀ y, y < 137 → lw_tbl[(am_mp y).2.2.2]? = some (.initialized (am_mn y).cls) := by decide +kernel
theorem am_mw_cn : ∀ y, y < 138 → (am_mn y).cls = am_on (am_mc y) := by decide +kernel
theorem am_mw_pn : ∀ y, y < 138 → plainFor (am_mn y) = true ∧ (am_mn y).cls ≠ "java/lang/invoke/MethodHandle" ∧ (am_mn y).cls ≠ "java/lang/invoke/VarHandle" ∧ (parseMethodDescriptor (am_mn y).desc).map (fun d => d.parameters.length) = some (am_np y) := by decide +kernel
theorem am_fl_ok : ∀ q ∈ am_fl, q.2.2.1 < 11 ∧ q.2.2.2.1 < am_Nc q.2.2.1 ∧ lw_tbl[q.2.2.2.2]? = some (.fieldLink (am_on q.1) q.2.1 (am_on q.2.2.1) (am_Tc q.2.2.1 q.2.2.2.1).2.1 (am_Tc q.2.2.1 q.2.2.2.1).2.2.1) := by decide +kernel
theorem am_mk_ok : ∀ q ∈ am_mk, q.2.2.1 < 137 ∧ lw_tbl[q.2.2.2]? = some (.methodLink (am_on q.1) q.2.1 (am_mn q.2.2.1)) := by decide +kernel
theorem am_ak_ok : ∀ q ∈ am_ak, lw_tbl[q.2.2]? = some (.methodLink (am_on q.1) q.2.1 arraycopyName) := by decide +kernel
theorem am_sk_ok : ∀ q ∈ am_sk, lw_tbl[q.2.2.2]? = some (.fieldLink (am_on q.1) q.2.1 "WhoIsWho" (am_rnm q.2.2.1) "[I") := by decide +kernel
theorem am_kk_ok : ∀ q ∈ am_kk, lw_tbl[q.2.2.2]? = some (.constant (am_on q.1) q.2.1 q.2.2.1) := by decide +kernel
theorem am_nw_ok : lw_tbl[am_nw.1]? = some (.native arraycopyName) ∧ lw_tbl[am_nw.2.1]? = some (.static arraycopyName) ∧ lw_tbl[am_nw.2.2]? = some (.initialized "java/lang/System") := by decide +kernel
end
section
/-! the code tables are the methods' bytes, decoded; the next index is the next instruction, a branch's index its target; links are among those of the tables -/
def am_pc (y i : Nat) : Nat := (am_nth (am_cd y) i (0, .nop, 0, 0, 0, [])).1
def am_il (ins : Instr) : Nat := match ins with
  | .iload _ => 2 | .aload _ => 2 | .lload _ => 2 | .istore _ => 2 | .astore _ => 2 | .lstore _ => 2 | .bipush _ => 2 | .sipush _ => 3 | .ldc _ => 2 | .iinc _ _ => 3
  | .goto _ => 3 | .ifCond _ _ => 3 | .if_icmp _ _ => 3 | .getfield _ => 3 | .putfield _ => 3 | .getstatic _ => 3 | .invokevirtual _ => 3 | .invokestatic _ => 3 | _ => 1
def am_rt (y : Nat) : Nat := (am_nth am_mth y (0, 0, 0, 0)).2.2.1
def am_has4 (l : List (Nat × Nat × Nat × Nat)) (a b c : Nat) : Bool := l.any fun q => Nat.beq q.1 a && Nat.beq q.2.1 b && Nat.beq q.2.2.1 c
def am_has5 (l : List (Nat × Nat × Nat × Nat × Nat)) (a b c d : Nat) : Bool := l.any fun q => Nat.beq q.1 a && Nat.beq q.2.1 b && Nat.beq q.2.2.1 c && Nat.beq q.2.2.2.1 d
def am_has3 (l : List (Nat × Nat × Nat)) (a b : Nat) : Bool := l.any fun q => Nat.beq q.1 a && Nat.beq q.2.1 b
def am_hasC (l : List (Nat × Nat × Int32 × Nat)) (a b : Nat) (z : Int32) : Bool := l.any fun q => Nat.beq q.1 a && Nat.beq q.2.1 b && decide (q.2.2.1 = z)
/-- the targets of a switch -/
def am_tgs (y p : Nat) : List Nat → List Int → Bool
  | [], [] => true
  | t :: ts, o :: os => decide ((p : Int) + o = (am_pc y t : Int)) && am_tgs y p ts os
  | _, _ => false
/-- what is asked of one row, beside its decoding -/
def am_okI (y i p : Nat) (ins : Instr) (a b : Nat) (z : Int32) (tg : List Nat) : Bool := match ins with
  | .goto off => decide ((p : Int) + off = (am_pc y a : Int))
  | .ifCond _ off => decide ((p : Int) + off = (am_pc y a : Int)) && Nat.beq (am_pc y (i + 1)) (p + 3)
  | .if_icmp _ off => decide ((p : Int) + off = (am_pc y a : Int)) && Nat.beq (am_pc y (i + 1)) (p + 3)
  | .tableswitch d lo hi offs => decide ((p : Int) + d = (am_pc y a : Int)) && am_tgs y p tg offs.toList && decide (hi = lo + (tg.length : Int) - 1)
  | .ireturn => Nat.beq a (am_rt y) && (Nat.beq a 0 || Nat.beq a 1)
  | .lreturn => Nat.beq (am_rt y) 3
  | .areturn => Nat.beq (am_rt y) 4
  | .return_ => Nat.beq (am_rt y) 2
  | .iconst n => decide (Int32.ofInt n = z) && Nat.beq (am_pc y (i + 1)) (p + 1)
  | .bipush n => decide ((Int8.ofInt n).toInt32 = z) && Nat.beq (am_pc y (i + 1)) (p + 2)
  | .sipush n => decide ((Int16.ofInt n).toInt32 = z) && Nat.beq (am_pc y (i + 1)) (p + 3)
  | .ldc n => am_hasC am_kk (am_mc y) n z && Nat.beq (am_pc y (i + 1)) (p + 2)
  | .iinc _ n => decide (Int32.ofInt n = z) && Nat.beq (am_pc y (i + 1)) (p + 3)
  | .getfield n => am_has5 am_fl (am_mc y) n a b && Nat.beq (am_pc y (i + 1)) (p + 3)
  | .putfield n => am_has5 am_fl (am_mc y) n a b && Nat.beq (am_pc y (i + 1)) (p + 3)
  | .getstatic n => am_has4 am_sk (am_mc y) n a && Nat.beq (am_pc y (i + 1)) (p + 3)
  | .invokevirtual n => am_has4 am_mk (am_mc y) n a && Nat.beq (am_mi a) 1 && Nat.beq (am_np a) b && Nat.beq (am_pc y (i + 1)) (p + 3)
  | .invokestatic n => (bif Nat.beq a 999 then am_has3 am_ak (am_mc y) n else am_has4 am_mk (am_mc y) n a && Nat.beq (am_mi a) 0 && Nat.beq (am_np a) b) && Nat.beq (am_pc y (i + 1)) (p + 3)
  | .istore_n k => Nat.blt k (am_ml y) && Nat.beq (am_pc y (i + 1)) (p + 1)
  | .istore k => Nat.blt k (am_ml y) && Nat.beq (am_pc y (i + 1)) (p + 2)
  | .astore_n k => Nat.blt k (am_ml y) && Nat.beq (am_pc y (i + 1)) (p + 1)
  | .astore k => Nat.blt k (am_ml y) && Nat.beq (am_pc y (i + 1)) (p + 2)
  | .lstore k => Nat.blt (k + 1) (am_ml y) && Nat.beq (am_pc y (i + 1)) (p + 2)
  | .new _ => true
  | .invokespecial _ => true
  | _ => Nat.beq (am_pc y (i + 1)) (p + am_il ins)
def am_isSw (ins : Instr) : Bool := match ins with
  | .tableswitch _ _ _ _ => true | .new _ => true | .invokespecial _ => true
  | _ => false
def am_okE (y i : Nat) (e : am_E) : Bool := match e with
  | (p, ins, a, b, z, tg) => (match decode (am_bt y) p with
    | .ok (ins', n) => decide (ins' = ins) && (am_isSw ins || Nat.beq n (am_il ins))
    | .error _ => false) && am_okI y i p ins a b z tg
def am_okL (y : Nat) : Nat → List am_E → Bool
  | _, [] => true
  | i, e :: l => am_okE y i e && am_okL y (i + 1) l
end
section
set_option maxRecDepth 100000
theorem am_ok0 : am_okL 0 0 am_c0 = true := by decide +kernel
theorem am_ok1 : am_okL 1 0 am_c1 = true := by decide +kernel
theorem am_ok2 : am_okL 2 0 am_c2 = true := by decide +kernel
theorem am_ok3 : am_okL 3 0 am_c3 = true := by decide +kernel
theorem am_ok4 : am_okL 4 0 am_c4 = true := by decide +kernel
theorem am_ok5 : am_okL 5 0 am_c5 = true := by decide +kernel
theorem am_ok6 : am_okL 6 0 am_c6 = true := by decide +kernel
theorem am_ok7 : am_okL 7 0 am_c7 = true := by decide +kernel
theorem am_ok8 : am_okL 8 0 am_c8 = true := by decide +kernel
theorem am_ok9 : am_okL 9 0 am_c9 = true := by decide +kernel
theorem am_ok10 : am_okL 10 0 am_c10 = true := by decide +kernel
theorem am_ok11 : am_okL 11 0 am_c11 = true := by decide +kernel
theorem am_ok12 : am_okL 12 0 am_c12 = true := by decide +kernel
theorem am_ok13 : am_okL 13 0 am_c13 = true := by decide +kernel
theorem am_ok14 : am_okL 14 0 am_c14 = true := by decide +kernel
theorem am_ok15 : am_okL 15 0 am_c15 = true := by decide +kernel
theorem am_ok16 : am_okL 16 0 am_c16 = true := by decide +kernel
theorem am_ok17 : am_okL 17 0 am_c17 = true := by decide +kernel
theorem am_ok18 : am_okL 18 0 am_c18 = true := by decide +kernel
theorem am_ok19 : am_okL 19 0 am_c19 = true := by decide +kernel
theorem am_ok20 : am_okL 20 0 am_c20 = true := by decide +kernel
theorem am_ok21 : am_okL 21 0 am_c21 = true := by decide +kernel
theorem am_ok22 : am_okL 22 0 am_c22 = true := by decide +kernel
theorem am_ok23 : am_okL 23 0 am_c23 = true := by decide +kernel
theorem am_ok24 : am_okL 24 0 am_c24 = true := by decide +kernel
theorem am_ok25 : am_okL 25 0 am_c25 = true := by decide +kernel
theorem am_ok26 : am_okL 26 0 am_c26 = true := by decide +kernel
theorem am_ok27 : am_okL 27 0 am_c27 = true := by decide +kernel
theorem am_ok28 : am_okL 28 0 am_c28 = true := by decide +kernel
theorem am_ok29 : am_okL 29 0 am_c29 = true := by decide +kernel
theorem am_ok30 : am_okL 30 0 am_c30 = true := by decide +kernel
theorem am_ok31 : am_okL 31 0 am_c31 = true := by decide +kernel
theorem am_ok32 : am_okL 32 0 am_c32 = true := by decide +kernel
theorem am_ok33 : am_okL 33 0 am_c33 = true := by decide +kernel
theorem am_ok34 : am_okL 34 0 am_c34 = true := by decide +kernel
theorem am_ok35 : am_okL 35 0 am_c35 = true := by decide +kernel
theorem am_ok36 : am_okL 36 0 am_c36 = true := by decide +kernel
theorem am_ok37 : am_okL 37 0 am_c37 = true := by decide +kernel
theorem am_ok38 : am_okL 38 0 am_c38 = true := by decide +kernel
theorem am_ok39 : am_okL 39 0 am_c39 = true := by decide +kernel
theorem am_ok40 : am_okL 40 0 am_c40 = true := by decide +kernel
theorem am_ok41 : am_okL 41 0 am_c41 = true := by decide +kernel
theorem am_ok42 : am_okL 42 0 am_c42 = true := by decide +kernel
theorem am_ok43 : am_okL 43 0 am_c43 = true := by decide +kernel
theorem am_ok44 : am_okL 44 0 am_c44 = true := by decide +kernel
theorem am_ok45 : am_okL 45 0 am_c45 = true := by decide +kernel
theorem am_ok46 : am_okL 46 0 am_c46 = true := by decide +kernel
theorem am_ok47 : am_okL 47 0 am_c47 = true := by decide +kernel
theorem am_ok48 : am_okL 48 0 am_c48 = true := by decide +kernel
theorem am_ok49 : am_okL 49 0 am_c49 = true := by decide +kernel
theorem am_ok50 : am_okL 50 0 am_c50 = true := by decide +kernel
theorem am_ok51 : am_okL 51 0 am_c51 = true := by decide +kernel
theorem am_ok52 : am_okL 52 0 am_c52 = true := by decide +kernel
theorem am_ok53 : am_okL 53 0 am_c53 = true := by decide +kernel
theorem am_ok54 : am_okL 54 0 am_c54 = true := by decide +kernel
theorem am_ok55 : am_okL 55 0 am_c55 = true := by decide +kernel
theorem am_ok56 : am_okL 56 0 am_c56 = true := by decide +kernel
theorem am_ok57 : am_okL 57 0 am_c57 = true := by decide +kernel
theorem am_ok58 : am_okL 58 0 am_c58 = true := by decide +kernel
theorem am_ok59 : am_okL 59 0 am_c59 = true := by decide +kernel
theorem am_ok60 : am_okL 60 0 am_c60 = true := by decide +kernel
theorem am_ok61 : am_okL 61 0 am_c61 = true := by decide +kernel
theorem am_ok62 : am_okL 62 0 am_c62 = true := by decide +kernel
theorem am_ok63 : am_okL 63 0 am_c63 = true := by decide +kernel
theorem am_ok64 : am_okL 64 0 am_c64 = true := by decide +kernel
theorem am_ok65 : am_okL 65 0 am_c65 = true := by decide +kernel
theorem am_ok66 : am_okL 66 0 am_c66 = true := by decide +kernel
theorem am_ok67 : am_okL 67 0 am_c67 = true := by decide +kernel
theorem am_ok68 : am_okL 68 0 am_c68 = true := by decide +kernel
theorem am_ok69 : am_okL 69 0 am_c69 = true := by decide +kernel
theorem am_ok70 : am_okL 70 0 am_c70 = true := by decide +kernel
theorem am_ok71 : am_okL 71 0 am_c71 = true := by decide +kernel
theorem am_ok72 : am_okL 72 0 am_c72 = true := by decide +kernel
theorem am_ok73 : am_okL 73 0 am_c73 = true := by decide +kernel
theorem am_ok74 : am_okL 74 0 am_c74 = true := by decide +kernel
theorem am_ok75 : am_okL 75 0 am_c75 = true := by decide +kernel
theorem am_ok76 : am_okL 76 0 am_c76 = true := by decide +kernel
theorem am_ok77 : am_okL 77 0 am_c77 = true := by decide +kernel
theorem am_ok78 : am_okL 78 0 am_c78 = true := by decide +kernel
theorem am_ok79 : am_okL 79 0 am_c79 = true := by decide +kernel
theorem am_ok80 : am_okL 80 0 am_c80 = true := by decide +kernel
theorem am_ok81 : am_okL 81 0 am_c81 = true := by decide +kernel
theorem am_ok82 : am_okL 82 0 am_c82 = true := by decide +kernel
theorem am_ok83 : am_okL 83 0 am_c83 = true := by decide +kernel
theorem am_ok84 : am_okL 84 0 am_c84 = true := by decide +kernel
theorem am_ok85 : am_okL 85 0 am_c85 = true := by decide +kernel
theorem am_ok86 : am_okL 86 0 am_c86 = true := by decide +kernel
theorem am_ok87 : am_okL 87 0 am_c87 = true := by decide +kernel
theorem am_ok88 : am_okL 88 0 am_c88 = true := by decide +kernel
theorem am_ok89 : am_okL 89 0 am_c89 = true := by decide +kernel
theorem am_ok90 : am_okL 90 0 am_c90 = true := by decide +kernel
theorem am_ok91 : am_okL 91 0 am_c91 = true := by decide +kernel
theorem am_ok92 : am_okL 92 0 am_c92 = true := by decide +kernel
theorem am_ok93 : am_okL 93 0 am_c93 = true := by decide +kernel
theorem am_ok94 : am_okL 94 0 am_c94 = true := by decide +kernel
theorem am_ok95 : am_okL 95 0 am_c95 = true := by decide +kernel
theorem am_ok96 : am_okL 96 0 am_c96 = true := by decide +kernel
theorem am_ok97 : am_okL 97 0 am_c97 = true := by decide +kernel
theorem am_ok98 : am_okL 98 0 am_c98 = true := by decide +kernel
theorem am_ok99 : am_okL 99 0 am_c99 = true := by decide +kernel
theorem am_ok100 : am_okL 100 0 am_c100 = true := by decide +kernel
theorem am_ok101 : am_okL 101 0 am_c101 = true := by decide +kernel
theorem am_ok102 : am_okL 102 0 am_c102 = true := by decide +kernel
theorem am_ok103 : am_okL 103 0 am_c103 = true := by decide +kernel
theorem am_ok104 : am_okL 104 0 am_c104 = true := by decide +kernel
theorem am_ok105 : am_okL 105 0 am_c105 = true := by decide +kernel
theorem am_ok106 : am_okL 106 0 am_c106 = true := by decide +kernel
theorem am_ok107 : am_okL 107 0 am_c107 = true := by decide +kernel
theorem am_ok108 : am_okL 108 0 am_c108 = true := by decide +kernel
theorem am_ok109 : am_okL 109 0 am_c109 = true := by decide +kernel
theorem am_ok110 : am_okL 110 0 am_c110 = true := by decide +kernel
theorem am_ok111 : am_okL 111 0 am_c111 = true := by decide +kernel
theorem am_ok112 : am_okL 112 0 am_c112 = true := by decide +kernel
theorem am_ok113 : am_okL 113 0 am_c113 = true := by decide +kernel
theorem am_ok114 : am_okL 114 0 am_c114 = true := by decide +kernel
theorem am_ok115 : am_okL 115 0 am_c115 = true := by decide +kernel
theorem am_ok116 : am_okL 116 0 am_c116 = true := by decide +kernel
theorem am_ok117 : am_okL 117 0 am_c117 = true := by decide +kernel
theorem am_ok118 : am_okL 118 0 am_c118 = true := by decide +kernel
theorem am_ok119 : am_okL 119 0 am_c119 = true := by decide +kernel
theorem am_ok120 : am_okL 120 0 am_c120 = true := by decide +kernel
theorem am_ok121 : am_okL 121 0 am_c121 = true := by decide +kernel
theorem am_ok122 : am_okL 122 0 am_c122 = true := by decide +kernel
theorem am_ok123 : am_okL 123 0 am_c123 = true := by decide +kernel
theorem am_ok124 : am_okL 124 0 am_c124 = true := by decide +kernel
theorem am_ok125 : am_okL 125 0 am_c125 = true := by decide +kernel
theorem am_ok126 : am_okL 126 0 am_c126 = true := by decide +kernel
theorem am_ok127 : am_okL 127 0 am_c127 = true := by decide +kernel
theorem am_ok128 : am_okL 128 0 am_c128 = true := by decide +kernel
theorem am_ok129 : am_okL 129 0 am_c129 = true := by decide +kernel
theorem am_ok130 : am_okL 130 0 am_c130 = true := by decide +kernel
theorem am_ok131 : am_okL 131 0 am_c131 = true := by decide +kernel
theorem am_ok132 : am_okL 132 0 am_c132 = true := by decide +kernel
theorem am_ok133 : am_okL 133 0 am_c133 = true := by decide +kernel
theorem am_ok134 : am_okL 134 0 am_c134 = true := by decide +kernel
theorem am_ok135 : am_okL 135 0 am_c135 = true := by decide +kernel
theorem am_ok136 : am_okL 136 0 am_c136 = true := by decide +kernel
theorem am_okA : ∀ y, y < 137 → am_okL y 0 (am_cd y) = true := fun y h => match y, h with
  | 0, _ => am_ok0
  | 1, _ => am_ok1
  | 2, _ => am_ok2
  | 3, _ => am_ok3
  | 4, _ => am_ok4
  | 5, _ => am_ok5
  | 6, _ => am_ok6
  | 7, _ => am_ok7
  | 8, _ => am_ok8
  | 9, _ => am_ok9
  | 10, _ => am_ok10
  | 11, _ => am_ok11
  | 12, _ => am_ok12
  | 13, _ => am_ok13
  | 14, _ => am_ok14
  | 15, _ => am_ok15
  | 16, _ => am_ok16
  | 17, _ => am_ok17
  | 18, _ => am_ok18
  | 19, _ => am_ok19
  | 20, _ => am_ok20
  | 21, _ => am_ok21
  | 22, _ => am_ok22
  | 23, _ => am_ok23
  | 24, _ => am_ok24
  | 25, _ => am_ok25
  | 26, _ => am_ok26
  | 27, _ => am_ok27
  | 28, _ => am_ok28
  | 29, _ => am_ok29
  | 30, _ => am_ok30
  | 31, _ => am_ok31
  | 32, _ => am_ok32
  | 33, _ => am_ok33
  | 34, _ => am_ok34
  | 35, _ => am_ok35
  | 36, _ => am_ok36
  | 37, _ => am_ok37
  | 38, _ => am_ok38
  | 39, _ => am_ok39
  | 40, _ => am_ok40
  | 41, _ => am_ok41
  | 42, _ => am_ok42
  | 43, _ => am_ok43
  | 44, _ => am_ok44
  | 45, _ => am_ok45
  | 46, _ => am_ok46
  | 47, _ => am_ok47
  | 48, _ => am_ok48
  | 49, _ => am_ok49
  | 50, _ => am_ok50
  | 51, _ => am_ok51
  | 52, _ => am_ok52
  | 53, _ => am_ok53
  | 54, _ => am_ok54
  | 55, _ => am_ok55
  | 56, _ => am_ok56
  | 57, _ => am_ok57
  | 58, _ => am_ok58
  | 59, _ => am_ok59
  | 60, _ => am_ok60
  | 61, _ => am_ok61
  | 62, _ => am_ok62
  | 63, _ => am_ok63
  | 64, _ => am_ok64
  | 65, _ => am_ok65
  | 66, _ => am_ok66
  | 67, _ => am_ok67
  | 68, _ => am_ok68
  | 69, _ => am_ok69
  | 70, _ => am_ok70
  | 71, _ => am_ok71
  | 72, _ => am_ok72
  | 73, _ => am_ok73
  | 74, _ => am_ok74
  | 75, _ => am_ok75
  | 76, _ => am_ok76
  | 77, _ => am_ok77
  | 78, _ => am_ok78
  | 79, _ => am_ok79
  | 80, _ => am_ok80
  | 81, _ => am_ok81
  | 82, _ => am_ok82
  | 83, _ => am_ok83
  | 84, _ => am_ok84
  | 85, _ => am_ok85
  | 86, _ => am_ok86
  | 87, _ => am_ok87
  | 88, _ => am_ok88
  | 89, _ => am_ok89
  | 90, _ => am_ok90
  | 91, _ => am_ok91
  | 92, _ => am_ok92
  | 93, _ => am_ok93
  | 94, _ => am_ok94
  | 95, _ => am_ok95
  | 96, _ => am_ok96
  | 97, _ => am_ok97
  | 98, _ => am_ok98
  | 99, _ => am_ok99
  | 100, _ => am_ok100
  | 101, _ => am_ok101
  | 102, _ => am_ok102
  | 103, _ => am_ok103
  | 104, _ => am_ok104
  | 105, _ => am_ok105
  | 106, _ => am_ok106
  | 107, _ => am_ok107
  | 108, _ => am_ok108
  | 109, _ => am_ok109
  | 110, _ => am_ok110
  | 111, _ => am_ok111
  | 112, _ => am_ok112
  | 113, _ => am_ok113
  | 114, _ => am_ok114
  | 115, _ => am_ok115
  | 116, _ => am_ok116
  | 117, _ => am_ok117
  | 118, _ => am_ok118
  | 119, _ => am_ok119
  | 120, _ => am_ok120
  | 121, _ => am_ok121
  | 122, _ => am_ok122
  | 123, _ => am_ok123
  | 124, _ => am_ok124
  | 125, _ => am_ok125
  | 126, _ => am_ok126
  | 127, _ => am_ok127
  | 128, _ => am_ok128
  | 129, _ => am_ok129
  | 130, _ => am_ok130
  | 131, _ => am_ok131
  | 132, _ => am_ok132
  | 133, _ => am_ok133
  | 134, _ => am_ok134
  | 135, _ => am_ok135
  | 136, _ => am_ok136
  | n + 137, h => absurd h (by omega)
end
section
set_option maxRecDepth 100000
theorem am_okw0 : ∀ j, j < 24 → am_okE 137 (0 + j) (am_nth am_c137 (0 + j) (0, .nop, 0, 0, 0, [])) = true := by decide +kernel
theorem am_okw24 : ∀ j, j < 24 → am_okE 137 (24 + j) (am_nth am_c137 (24 + j) (0, .nop, 0, 0, 0, [])) = true := by decide +kernel
theorem am_okw48 : ∀ j, j < 24 → am_okE 137 (48 + j) (am_nth am_c137 (48 + j) (0, .nop, 0, 0, 0, [])) = true := by decide +kernel
theorem am_okw72 : ∀ j, j < 24 → am_okE 137 (72 + j) (am_nth am_c137 (72 + j) (0, .nop, 0, 0, 0, [])) = true := by decide +kernel
theorem am_okw96 : ∀ j, j < 24 → am_okE 137 (96 + j) (am_nth am_c137 (96 + j) (0, .nop, 0, 0, 0, [])) = true := by decide +kernel
theorem am_okw120 : ∀ j, j < 24 → am_okE 137 (120 + j) (am_nth am_c137 (120 + j) (0, .nop, 0, 0, 0, [])) = true := by decide +kernel
theorem am_okw144 : ∀ j, j < 24 → am_okE 137 (144 + j) (am_nth am_c137 (144 + j) (0, .nop, 0, 0, 0, [])) = true := by decide +kernel
theorem am_okw168 : ∀ j, j < 24 → am_okE 137 (168 + j) (am_nth am_c137 (168 + j) (0, .nop, 0, 0, 0, [])) = true := by decide +kernel
theorem am_okw192 : ∀ j, j < 24 → am_okE 137 (192 + j) (am_nth am_c137 (192 + j) (0, .nop, 0, 0, 0, [])) = true := by decide +kernel
theorem am_okw216 : ∀ j, j < 24 → am_okE 137 (216 + j) (am_nth am_c137 (216 + j) (0, .nop, 0, 0, 0, [])) = true := by decide +kernel
theorem am_okw240 : ∀ j, j < 24 → am_okE 137 (240 + j) (am_nth am_c137 (240 + j) (0, .nop, 0, 0, 0, [])) = true := by decide +kernel
theorem am_okw264 : ∀ j, j < 24 → am_okE 137 (264 + j) (am_nth am_c137 (264 + j) (0, .nop, 0, 0, 0, [])) = true := by decide +kernel
theorem am_okw288 : ∀ j, j < 24 → am_okE 137 (288 + j) (am_nth am_c137 (288 + j) (0, .nop, 0, 0, 0, [])) = true := by decide +kernel
theorem am_okw312 : ∀ j, j < 24 → am_okE 137 (312 + j) (am_nth am_c137 (312 + j) (0, .nop, 0, 0, 0, [])) = true := by decide +kernel
theorem am_okw336 : ∀ j, j < 24 → am_okE 137 (336 + j) (am_nth am_c137 (336 + j) (0, .nop, 0, 0, 0, [])) = true := by decide +kernel
theorem am_okw360 : ∀ j, j < 24 → am_okE 137 (360 + j) (am_nth am_c137 (360 + j) (0, .nop, 0, 0, 0, [])) = true := by decide +kernel
theorem am_okw384 : ∀ j, j < 24 → am_okE 137 (384 + j) (am_nth am_c137 (384 + j) (0, .nop, 0, 0, 0, [])) = true := by decide +kernel
theorem am_okw408 : ∀ j, j < 24 → am_okE 137 (408 + j) (am_nth am_c137 (408 + j) (0, .nop, 0, 0, 0, [])) = true := by decide +kernel
theorem am_okw432 : ∀ j, j < 24 → am_okE 137 (432 + j) (am_nth am_c137 (432 + j) (0, .nop, 0, 0, 0, [])) = true := by decide +kernel
theorem am_okw456 : ∀ j, j < 24 → am_okE 137 (456 + j) (am_nth am_c137 (456 + j) (0, .nop, 0, 0, 0, [])) = true := by decide +kernel
theorem am_okw480 : ∀ j, j < 24 → am_okE 137 (480 + j) (am_nth am_c137 (480 + j) (0, .nop, 0, 0, 0, [])) = true := by decide +kernel
theorem am_okw504 : ∀ j, j < 24 → am_okE 137 (504 + j) (am_nth am_c137 (504 + j) (0, .nop, 0, 0, 0, [])) = true := by decide +kernel
theorem am_okw528 : ∀ j, j < 24 → am_okE 137 (528 + j) (am_nth am_c137 (528 + j) (0, .nop, 0, 0, 0, [])) = true := by decide +kernel
theorem am_okw552 : ∀ j, j < 24 → am_okE 137 (552 + j) (am_nth am_c137 (552 + j) (0, .nop, 0, 0, 0, [])) = true := by decide +kernel
theorem am_okw576 : ∀ j, j < 24 → am_okE 137 (576 + j) (am_nth am_c137 (576 + j) (0, .nop, 0, 0, 0, [])) = true := by decide +kernel
theorem am_okw600 : ∀ j, j < 24 → am_okE 137 (600 + j) (am_nth am_c137 (600 + j) (0, .nop, 0, 0, 0, [])) = true := by decide +kernel
theorem am_okw624 : ∀ j, j < 24 → am_okE 137 (624 + j) (am_nth am_c137 (624 + j) (0, .nop, 0, 0, 0, [])) = true := by decide +kernel
theorem am_okw648 : ∀ j, j < 23 → am_okE 137 (648 + j) (am_nth am_c137 (648 + j) (0, .nop, 0, 0, 0, [])) = true := by decide +kernel
theorem am_okw : ∀ i, i < 671 → am_okE 137 i (am_nth am_c137 i (0, .nop, 0, 0, 0, [])) = true := by
  intro i h
  rcases Nat.lt_or_ge i 24 with q | q
  · have z := am_okw0 (i - 0) (by omega)
    rw [show 0 + (i - 0) = i by omega] at z; exact z
  rcases Nat.lt_or_ge i 48 with q | q
  · have z := am_okw24 (i - 24) (by omega)
    rw [show 24 + (i - 24) = i by omega] at z; exact z
  rcases Nat.lt_or_ge i 72 with q | q
  · have z := am_okw48 (i - 48) (by omega)
    rw [show 48 + (i - 48) = i by omega] at z; exact z
  rcases Nat.lt_or_ge i 96 with q | q
  · have z := am_okw72 (i - 72) (by omega)
    rw [show 72 + (i - 72) = i by omega] at z; exact z
  rcases Nat.lt_or_ge i 120 with q | q
  · have z := am_okw96 (i - 96) (by omega)
    rw [show 96 + (i - 96) = i by omega] at z; exact z
  rcases Nat.lt_or_ge i 144 with q | q
  · have z := am_okw120 (i - 120) (by omega)
    rw [show 120 + (i - 120) = i by omega] at z; exact z
  rcases Nat.lt_or_ge i 168 with q | q
  · have z := am_okw144 (i - 144) (by omega)
    rw [show 144 + (i - 144) = i by omega] at z; exact z
  rcases Nat.lt_or_ge i 192 with q | q
  · have z := am_okw168 (i - 168) (by omega)
    rw [show 168 + (i - 168) = i by omega] at z; exact z
  rcases Nat.lt_or_ge i 216 with q | q
  · have z := am_okw192 (i - 192) (by omega)
    rw [show 192 + (i - 192) = i by omega] at z; exact z
  rcases Nat.lt_or_ge i 240 with q | q
  · have z := am_okw216 (i - 216) (by omega)
    rw [show 216 + (i - 216) = i by omega] at z; exact z
  rcases Nat.lt_or_ge i 264 with q | q
  · have z := am_okw240 (i - 240) (by omega)
    rw [show 240 + (i - 240) = i by omega] at z; exact z
  rcases Nat.lt_or_ge i 288 with q | q
  · have z := am_okw264 (i - 264) (by omega)
    rw [show 264 + (i - 264) = i by omega] at z; exact z
  rcases Nat.lt_or_ge i 312 with q | q
  · have z := am_okw288 (i - 288) (by omega)
    rw [show 288 + (i - 288) = i by omega] at z; exact z
  rcases Nat.lt_or_ge i 336 with q | q
  · have z := am_okw312 (i - 312) (by omega)
    rw [show 312 + (i - 312) = i by omega] at z; exact z
  rcases Nat.lt_or_ge i 360 with q | q
  · have z := am_okw336 (i - 336) (by omega)
    rw [show 336 + (i - 336) = i by omega] at z; exact z
  rcases Nat.lt_or_ge i 384 with q | q
  · have z := am_okw360 (i - 360) (by omega)
    rw [show 360 + (i - 360) = i by omega] at z; exact z
  rcases Nat.lt_or_ge i 408 with q | q
  · have z := am_okw384 (i - 384) (by omega)
    rw [show 384 + (i - 384) = i by omega] at z; exact z
  rcases Nat.lt_or_ge i 432 with q | q
  · have z := am_okw408 (i - 408) (by omega)
    rw [show 408 + (i - 408) = i by omega] at z; exact z
  rcases Nat.lt_or_ge i 456 with q | q
  · have z := am_okw432 (i - 432) (by omega)
    rw [show 432 + (i - 432) = i by omega] at z; exact z
  rcases Nat.lt_or_ge i 480 with q | q
  · have z := am_okw456 (i - 456) (by omega)
    rw [show 456 + (i - 456) = i by omega] at z; exact z
  rcases Nat.lt_or_ge i 504 with q | q
  · have z := am_okw480 (i - 480) (by omega)
    rw [show 480 + (i - 480) = i by omega] at z; exact z
  rcases Nat.lt_or_ge i 528 with q | q
  · have z := am_okw504 (i - 504) (by omega)
    rw [show 504 + (i - 504) = i by omega] at z; exact z
  rcases Nat.lt_or_ge i 552 with q | q
  · have z := am_okw528 (i - 528) (by omega)
    rw [show 528 + (i - 528) = i by omega] at z; exact z
  rcases Nat.lt_or_ge i 576 with q | q
  · have z := am_okw552 (i - 552) (by omega)
    rw [show 552 + (i - 552) = i by omega] at z; exact z
  rcases Nat.lt_or_ge i 600 with q | q
  · have z := am_okw576 (i - 576) (by omega)
    rw [show 576 + (i - 576) = i by omega] at z; exact z
  rcases Nat.lt_or_ge i 624 with q | q
  · have z := am_okw600 (i - 600) (by omega)
    rw [show 600 + (i - 600) = i by omega] at z; exact z
  rcases Nat.lt_or_ge i 648 with q | q
  · have z := am_okw624 (i - 624) (by omega)
    rw [show 624 + (i - 624) = i by omega] at z; exact z
  rcases Nat.lt_or_ge i 671 with q | q
  · have z := am_okw648 (i - 648) (by omega)
    rw [show 648 + (i - 648) = i by omega] at z; exact z
  omega
end
section
theorem am_okL_at {y : Nat} : ∀ {l : List am_E} {k : Nat}, am_okL y k l = true → ∀ {i : Nat} {e : am_E}, am_nth (l.map some) i none = some e → am_okE y (k + i) e = true ∧ (am_nth l i (0, .nop, 0, 0, 0, [])) = e
  | [], k, h, i, e, q => by cases i <;> simp [am_nth] at q
  | a :: l, k, h, 0, e, q => by
    simp only [am_okL, Bool.and_eq_true] at h
    simp only [List.map_cons, am_nth, Option.some.injEq] at q
    subst q; exact ⟨h.1, rfl⟩
  | a :: l, k, h, i + 1, e, q => by
    simp only [am_okL, Bool.and_eq_true] at h
    simp only [List.map_cons, am_nth] at q
    have := am_okL_at h.2 q
    rw [show k + 1 + i = k + (i + 1) by omega] at this
    exact this
theorem am_nth_some {l : List am_E} {i : Nat} {e : am_E} (q : am_nth (l.map some) i none = some e) : i < l.length ∧ am_nth l i (0, .nop, 0, 0, 0, []) = e := by
  induction l generalizing i with
  | nil => cases i <;> simp [am_nth] at q
  | cons a l ih => cases i with
    | zero => simp only [List.map_cons, am_nth, Option.some.injEq] at q; exact ⟨by simp, q⟩
    | succ i => simp only [List.map_cons, am_nth] at q; have := ih q; exact ⟨by simp; omega, this.2⟩
/-- what is known of the row at an index -/
theorem am_row {y i : Nat} {e : am_E} (hy : y < 138) (h : am_at y i = some e) : am_okE y i e = true ∧ am_pc y i = e.1 := by
  unfold am_at at h
  have h2 := am_nth_some h
  refine ⟨?_, by unfold am_pc; rw [h2.2]⟩
  rcases Nat.lt_or_ge y 137 with q | q
  · have := (am_okL_at (am_okA y q) h).1
    rw [Nat.zero_add] at this; exact this
  · have : y = 137 := by omega
    subst this
    have hl : (am_cd 137).length = 671 := by decide +kernel
    have h3 : i < 671 := by rw [← hl]; exact h2.1
    have h4 := am_okw i h3
    have h5 : am_nth am_c137 i (0, .nop, 0, 0, 0, []) = e := h2.2
    rw [h5] at h4; exact h4
theorem am_row2 {y i p a b : Nat} {ins : Instr} {z : Int32} {tg : List Nat} (hy : y < 138) (h : am_at y i = some (p, ins, a, b, z, tg)) (hs : am_isSw ins = false) : decode (am_bt y) (am_pc y i) = .ok (ins, am_il ins) ∧ am_okI y i (am_pc y i) ins a b z tg = true := by
  obtain ⟨h1, h2⟩ := am_row hy h
  simp only [am_okE, Bool.and_eq_true] at h1
  dsimp only at h2
  rw [h2]
  obtain ⟨h1, h3⟩ := h1
  refine ⟨?_, h3⟩
  cases hd : decode (am_bt y) p with
  | error er => rw [hd] at h1; simp at h1
  | ok q =>
    obtain ⟨ins', n⟩ := q
    rw [hd] at h1
    simp only [Bool.and_eq_true, Bool.or_eq_true, decide_eq_true_eq, hs] at h1
    rw [h1.1, Nat.eq_of_beq_eq_true (h1.2.resolve_left (by decide))]
theorem am_row3 {y i p a b : Nat} {dd lo hi : Int} {offs : Array Int} {z : Int32} {tg : List Nat} (hy : y < 138) (h : am_at y i = some (p, .tableswitch dd lo hi offs, a, b, z, tg)) : ∃ n, decode (am_bt y) (am_pc y i) = .ok (.tableswitch dd lo hi offs, n) ∧ am_okI y i (am_pc y i) (.tableswitch dd lo hi offs) a b z tg = true := by
  obtain ⟨h1, h2⟩ := am_row hy h
  simp only [am_okE, Bool.and_eq_true] at h1
  dsimp only at h2
  rw [h2]
  obtain ⟨h1, h3⟩ := h1
  cases hd : decode (am_bt y) p with
  | error er => rw [hd] at h1; simp at h1
  | ok q =>
    obtain ⟨ins', n⟩ := q
    rw [hd] at h1
    simp only [Bool.and_eq_true, decide_eq_true_eq] at h1
    exact ⟨n, by rw [h1.1], h3⟩
end
section
/-! the abstract machine's memory as a world of cells; its locals as the machine's -/
def am_rv (ν : Nat → Nat → Nat) : am_V → Value
  | .inl x => .int x
  | .inr (.inl q) => .ref (ν q.1 q.2)
  | .inr (.inr x) => .long x
def am_okV : am_V → Prop
  | .inr (.inl q) => q.2 < am_cnt q.1
  | _ => True
def am_okM (M : am_M) : Prop := (∀ k, k < 13 → M.2.1 4 k < 13) ∧ (∀ k, k < 4 → M.2.1 12 k < 4) ∧ M.2.1 8 0 < 2 ∧ M.2.1 8 2 < 2
def am_nms : List (Nat × Nat) := (List.range 59).flatMap fun f => (List.range (am_cnt f)).map fun i => (f, i)
def am_aT (dA : Nat → ClassId) : List (ClassId × FieldType) := [(dA 0, .int), (dA 1, .boolean), (dA 2, .object "WhoIsWho$Scan"), (dA 3, .object "WhoIsWho$Join"), (dA 4, .object "WhoIsWho$World"), (dA 5, .object "WhoIsWho$Track")]
def am_cell (ν : Nat → Nat → Nat) (dA : Nat → ClassId) (M : am_M) (f i : Nat) : va_E := match am_kind f with
  | 0 => .inr (am_cls f, (List.range (am_len0 f)).map fun k => am_rv ν (am_fv M (am_cls f) f i k))
  | 1 => .inl (dA 0, am_len0 f, .inl (M.1 f i))
  | 2 => .inl (dA 1, am_len0 f, .inl (M.1 f i))
  | _ => .inl (dA (am_cls f - 4), am_len0 f, .inr (.inr (.inr (.inr fun k => some (ν (am_rfA f) (am_riA M f i k))))))
def am_ws (ν : Nat → Nat → Nat) (dA : Nat → ClassId) (M : am_M) : va_W := am_nms.map fun q => (ν q.1 q.2, am_cell ν dA M q.1 q.2)
theorem am_nd : am_nms.Nodup := by decide +kernel
theorem am_in {f i : Nat} (hf : f < 59) (hi : i < am_cnt f) : ∃ q : Nat, am_nms[q]? = some (f, i) := by
  have : (f, i) ∈ am_nms := by
    unfold am_nms
    rw [List.mem_flatMap]
    exact ⟨f, List.mem_range.mpr hf, List.mem_map.mpr ⟨i, List.mem_range.mpr hi, rfl⟩⟩
  exact List.getElem?_of_mem this
theorem am_nms_ok {f i : Nat} (h : (f, i) ∈ am_nms) : f < 59 ∧ i < am_cnt f := by
  unfold am_nms at h
  rw [List.mem_flatMap] at h
  obtain ⟨f', h1, h2⟩ := h
  obtain ⟨i', h3, h4⟩ := List.mem_map.mp h2
  cases h4
  exact ⟨List.mem_range.mp h1, List.mem_range.mp h3⟩
theorem am_ws_at {ν : Nat → Nat → Nat} {dA : Nat → ClassId} {M : am_M} {f i q : Nat} (h : am_nms[q]? = some (f, i)) : (am_ws ν dA M)[q]? = some (ν f i, am_cell ν dA M f i) := by
  unfold am_ws; rw [List.getElem?_map, h]; rfl
theorem am_ws_set {ν : Nat → Nat → Nat} {dA : Nat → ClassId} {M M' : am_M} {f i q : Nat} {e : va_E} (h : am_nms[q]? = some (f, i)) (he : am_cell ν dA M' f i = e) (ho : ∀ f' i', (f', i') ∈ am_nms → (f', i') ≠ (f, i) → am_cell ν dA M' f' i' = am_cell ν dA M f' i') :
    (am_ws ν dA M).set q (ν f i, e) = am_ws ν dA M' := by
  apply List.ext_getElem?
  intro k
  by_cases hk : k = q
  · subst hk
    have hl : k < (am_ws ν dA M).length := by
      unfold am_ws; rw [List.length_map]; exact (List.getElem?_eq_some_iff.mp h).1
    rw [List.getElem?_set_self hl, am_ws_at h, he]
  · rw [List.getElem?_set_ne (Ne.symm hk)]
    unfold am_ws
    rw [List.getElem?_map, List.getElem?_map]
    cases hq : am_nms[k]? with
    | none => rfl
    | some p =>
      obtain ⟨f', i'⟩ := p
      have hne : (f', i') ≠ (f, i) := by
        intro z
        rw [z] at hq
        obtain ⟨l1, e1⟩ := List.getElem?_eq_some_iff.mp hq
        obtain ⟨l2, e2⟩ := List.getElem?_eq_some_iff.mp h
        have hnd := List.pairwise_iff_getElem.mp am_nd
        rcases Nat.lt_trichotomy k q with g | g | g
        · exact hnd k q l1 l2 g (e1.trans e2.symm)
        · exact hk g
        · exact hnd q k l2 l1 g (e2.trans e1.symm)
      show some (ν f' i', am_cell ν dA M f' i') = some (ν f' i', am_cell ν dA M' f' i')
      rw [ho f' i' (List.mem_of_getElem? hq) hne]
/-- the constant rows, the script -/
def am_St (ν : Nat → Nat → Nat) (A : Nat → Prop) (M : am_M) (U : State) (H0 : Heap) : Prop :=
  (∀ f, f = 59 ∨ f = 60 → va_Z "WhoIsWho" (am_rnm f) "[I" (.ref (ν f 0)) A U H0 ∧ va_X (ν f 0) 6 (am_stT f) U H0 ∧ ν f 0 < H0.size ∧ ¬ A (ν f 0)) ∧
  va_X (ν 61 0) (am_len M 61) (M.1 61 0) U H0 ∧ ν 61 0 < H0.size ∧ ¬ A (ν 61 0)
def am_Wd (ν : Nat → Nat → Nat) (dA : Nat → ClassId) (D : va_G) (A : Nat → Prop) (s : State) (H : Heap) (locs : List Loc) (M : am_M) : Prop :=
  va_K D am_cl (am_aT dA) s ∧ va_P D am_cl (am_ws ν dA M) H ∧ va_D A (am_ws ν dA M) ∧ va_S A s.heap H locs ∧ am_okM M ∧ am_St ν A M s s.heap
def am_lv (ν : Nat → Nat → Nat) (n : Nat) (ls : List (Option am_V)) (lsc : Array Slot) : Prop := ls.length = n ∧ lsc.size = n ∧ lv_wf lsc ∧ ∀ k v, am_nth ls k none = some v → lsc[k]? = some (.val (am_rv ν v))
theorem am_nth_lt {α : Type} {l : List (Option α)} {k : Nat} {v : α} (h : am_nth l k none = some v) : k < l.length := by
  induction l generalizing k with
  | nil => simp [am_nth] at h
  | cons a l ih => cases k with
    | zero => simp
    | succ k => simp only [am_nth] at h; have := ih h; simp; omega
def am_prs (ν : Nat → Nat → Nat) : Nat → List (Option am_V) → List (Nat × Value)
  | _, [] => []
  | k, some v :: l => (k, am_rv ν v) :: am_prs ν (k + 1) l
  | k, none :: l => am_prs ν (k + 1) l
theorem am_prs_of {ν : Nat → Nat → Nat} : ∀ {l : List (Option am_V)} {j k : Nat} {v : am_V}, am_nth l k none = some v → (j + k, am_rv ν v) ∈ am_prs ν j l
  | [], j, k, v, h => by simp [am_nth] at h
  | some w :: l, j, 0, v, h => by
    simp only [am_nth, Option.some.injEq] at h; subst h; exact List.mem_cons_self
  | none :: l, j, 0, v, h => by simp [am_nth] at h
  | some w :: l, j, k + 1, v, h => by
    simp only [am_nth] at h
    have := am_prs_of (ν := ν) (j := j + 1) h
    rw [show j + 1 + k = j + (k + 1) by omega] at this
    exact List.mem_cons_of_mem _ this
  | none :: l, j, k + 1, v, h => by
    simp only [am_nth] at h
    have := am_prs_of (ν := ν) (j := j + 1) h
    rw [show j + 1 + k = j + (k + 1) by omega] at this
    exact this
theorem am_prs_at {ν : Nat → Nat → Nat} : ∀ {l : List (Option am_V)} {j : Nat} {q : Nat × Value}, q ∈ am_prs ν j l → ∃ k v, am_nth l k none = some v ∧ q = (j + k, am_rv ν v)
  | [], j, q, h => by simp [am_prs] at h
  | some w :: l, j, q, h => by
    rcases List.mem_cons.mp h with h | h
    · exact ⟨0, w, rfl, h⟩
    · obtain ⟨k, v, h1, h2⟩ := am_prs_at h
      exact ⟨k + 1, v, h1, by rw [h2]; congr 1; omega⟩
  | none :: l, j, q, h => by
    obtain ⟨k, v, h1, h2⟩ := am_prs_at (show q ∈ am_prs ν (j + 1) l from h)
    exact ⟨k + 1, v, h1, by rw [h2]; congr 1; omega⟩
theorem am_lv_has {ν : Nat → Nat → Nat} {n : Nat} {ls : List (Option am_V)} {lsc : Array Slot} (h : am_lv ν n ls lsc) : lv_has lsc n (am_prs ν 0 ls) := by
  refine ⟨h.2.1, h.2.2.1, fun q hq => ?_⟩
  obtain ⟨k, v, h1, h2⟩ := am_prs_at hq
  rw [h2, Nat.zero_add]
  exact h.2.2.2 k v h1
theorem am_set_len : ∀ (ls : List (Option am_V)) (i : Nat) (v : am_V), (am_set ls i v).length = ls.length
  | [], _, _ => rfl
  | _ :: l, 0, v => rfl
  | none :: l, n + 1, v => by simp only [am_set, List.length_cons, am_set_len l n v]
  | some (.inl x) :: l, n + 1, v => by simp only [am_set, List.length_cons, am_set_len l n v]
  | some (.inr (.inl x)) :: l, n + 1, v => by simp only [am_set, List.length_cons, am_set_len l n v]
  | some (.inr (.inr x)) :: [], n + 1, v => by cases n <;> rfl
  | some (.inr (.inr x)) :: b :: l, 1, v => rfl
  | some (.inr (.inr x)) :: b :: l, n + 2, v => by simp only [am_set, List.length_cons, am_set_len (b :: l) (n + 1) v]
def am_isL (v : am_V) : Prop := ∃ x, v = .inr (.inr x)
theorem am_cat2 {ν : Nat → Nat → Nat} {v : am_V} (h : (am_rv ν v).category = 2) : am_isL v := by
  rcases v with x | x | x
  · simp [am_rv, Value.category] at h
  · simp [am_rv, Value.category] at h
  · exact ⟨x, rfl⟩
theorem am_set_at : ∀ {ls : List (Option am_V)} {i : Nat} {v : am_V} {k : Nat} {w : am_V}, i < ls.length → am_nth (am_set ls i v) k none = some w → (k = i ∧ w = v) ∨ (k ≠ i ∧ am_nth ls k none = some w ∧ ¬ (k + 1 = i ∧ am_isL w))
  | [], i, v, k, w, hi, h => by simp at hi
  | _ :: l, 0, v, 0, w, hi, h => by simp only [am_set, am_nth, Option.some.injEq] at h; exact Or.inl ⟨rfl, h.symm⟩
  | _ :: l, 0, v, k + 1, w, hi, h => by simp only [am_set, am_nth] at h; exact Or.inr ⟨by omega, h, fun q => by omega⟩
  | none :: l, n + 1, v, 0, w, hi, h => by simp [am_set, am_nth] at h
  | none :: l, n + 1, v, k + 1, w, hi, h => by
    simp only [am_set, am_nth] at h
    rcases am_set_at (by simp only [List.length_cons] at hi ⊢; omega) h with ⟨h1, h2⟩ | ⟨h1, h2, h3⟩
    · exact Or.inl ⟨by omega, h2⟩
    · exact Or.inr ⟨by omega, h2, fun q => h3 ⟨by omega, q.2⟩⟩
  | some (.inl x) :: l, n + 1, v, 0, w, hi, h => by
    simp only [am_set, am_nth, Option.some.injEq] at h
    exact Or.inr ⟨by omega, by rw [← h]; rfl, fun q => by obtain ⟨-, y, hy⟩ := q; rw [← h] at hy; cases hy⟩
  | some (.inl x) :: l, n + 1, v, k + 1, w, hi, h => by
    simp only [am_set, am_nth] at h
    rcases am_set_at (by simp only [List.length_cons] at hi ⊢; omega) h with ⟨h1, h2⟩ | ⟨h1, h2, h3⟩
    · exact Or.inl ⟨by omega, h2⟩
    · exact Or.inr ⟨by omega, h2, fun q => h3 ⟨by omega, q.2⟩⟩
  | some (.inr (.inl x)) :: l, n + 1, v, 0, w, hi, h => by
    simp only [am_set, am_nth, Option.some.injEq] at h
    exact Or.inr ⟨by omega, by rw [← h]; rfl, fun q => by obtain ⟨-, y, hy⟩ := q; rw [← h] at hy; cases hy⟩
  | some (.inr (.inl x)) :: l, n + 1, v, k + 1, w, hi, h => by
    simp only [am_set, am_nth] at h
    rcases am_set_at (by simp only [List.length_cons] at hi ⊢; omega) h with ⟨h1, h2⟩ | ⟨h1, h2, h3⟩
    · exact Or.inl ⟨by omega, h2⟩
    · exact Or.inr ⟨by omega, h2, fun q => h3 ⟨by omega, q.2⟩⟩
  | some (.inr (.inr x)) :: [], n + 1, v, k, w, hi, h => by
    cases n with
    | zero =>
      cases k with
      | zero => simp only [am_set, am_nth, Option.some.injEq] at h; exact Or.inr ⟨by omega, by rw [← h]; rfl, fun q => by simp at hi⟩
      | succ k => simp [am_set, am_nth] at h
    | succ n =>
      cases k with
      | zero => simp only [am_set, am_nth, Option.some.injEq] at h; exact Or.inr ⟨by omega, by rw [← h]; rfl, fun q => by omega⟩
      | succ k => simp [am_set, am_nth] at h
  | some (.inr (.inr x)) :: b :: l, 1, v, k, w, hi, h => by
    match k, h with
    | 0, h => simp [am_set, am_nth] at h
    | 1, h => simp only [am_set, am_nth, Option.some.injEq] at h; exact Or.inl ⟨rfl, h.symm⟩
    | k + 2, h => simp only [am_set, am_nth] at h; exact Or.inr ⟨by omega, h, fun q => by omega⟩
  | some (.inr (.inr x)) :: b :: l, n + 2, v, 0, w, hi, h => by
    simp only [am_set, am_nth, Option.some.injEq] at h
    exact Or.inr ⟨by omega, by rw [← h]; rfl, fun q => by omega⟩
  | some (.inr (.inr x)) :: b :: l, n + 2, v, k + 1, w, hi, h => by
    simp only [am_set, am_nth] at h
    rcases am_set_at (by simp only [List.length_cons] at hi ⊢; omega) h with ⟨h1, h2⟩ | ⟨h1, h2, h3⟩
    · exact Or.inl ⟨by omega, h2⟩
    · exact Or.inr ⟨by omega, h2, fun q => h3 ⟨by omega, q.2⟩⟩

theorem am_set2_len : ∀ (ls : List (Option am_V)) (i : Nat) (v : Int64), (am_set2 ls i v).length = ls.length
  | [], _, _ => rfl
  | [_], 0, v => rfl
  | _ :: _ :: l, 0, v => rfl
  | none :: l, n + 1, v => by simp only [am_set2, List.length_cons, am_set2_len l n v]
  | some (.inl x) :: l, n + 1, v => by simp only [am_set2, List.length_cons, am_set2_len l n v]
  | some (.inr (.inl x)) :: l, n + 1, v => by simp only [am_set2, List.length_cons, am_set2_len l n v]
  | some (.inr (.inr x)) :: [], n + 1, v => by cases n <;> rfl
  | some (.inr (.inr x)) :: [b], 1, v => rfl
  | some (.inr (.inr x)) :: b :: b' :: l, 1, v => rfl
  | some (.inr (.inr x)) :: b :: l, n + 2, v => by simp only [am_set2, List.length_cons, am_set2_len (b :: l) (n + 1) v]
theorem am_set2_at : ∀ {ls : List (Option am_V)} {i : Nat} {v : Int64} {k : Nat} {w : am_V}, i + 1 < ls.length → am_nth (am_set2 ls i v) k none = some w → (k = i ∧ w = .inr (.inr v)) ∨ (k ≠ i ∧ k ≠ i + 1 ∧ am_nth ls k none = some w ∧ ¬ (k + 1 = i ∧ am_isL w))
  | [], i, v, k, w, hi, h => by simp at hi
  | [a], i, v, k, w, hi, h => by simp at hi
  | _ :: _ :: l, 0, v, 0, w, hi, h => by simp only [am_set2, am_nth, Option.some.injEq] at h; exact Or.inl ⟨rfl, h.symm⟩
  | _ :: _ :: l, 0, v, 1, w, hi, h => by simp [am_set2, am_nth] at h
  | _ :: _ :: l, 0, v, k + 2, w, hi, h => by simp only [am_set2, am_nth] at h; exact Or.inr ⟨by omega, by omega, h, fun q => by omega⟩
  | none :: b :: l, n + 1, v, 0, w, hi, h => by simp [am_set2, am_nth] at h
  | none :: b :: l, n + 1, v, k + 1, w, hi, h => by
    simp only [am_set2, am_nth] at h
    rcases am_set2_at (by simp only [List.length_cons] at hi ⊢; omega) h with ⟨h1, h2⟩ | ⟨h1, h1', h2, h3⟩
    · exact Or.inl ⟨by omega, h2⟩
    · exact Or.inr ⟨by omega, by omega, h2, fun q => h3 ⟨by omega, q.2⟩⟩
  | some (.inl x) :: b :: l, n + 1, v, 0, w, hi, h => by
    simp only [am_set2, am_nth, Option.some.injEq] at h
    exact Or.inr ⟨by omega, by omega, by rw [← h]; rfl, fun q => by obtain ⟨-, y, hy⟩ := q; rw [← h] at hy; cases hy⟩
  | some (.inl x) :: b :: l, n + 1, v, k + 1, w, hi, h => by
    simp only [am_set2, am_nth] at h
    rcases am_set2_at (by simp only [List.length_cons] at hi ⊢; omega) h with ⟨h1, h2⟩ | ⟨h1, h1', h2, h3⟩
    · exact Or.inl ⟨by omega, h2⟩
    · exact Or.inr ⟨by omega, by omega, h2, fun q => h3 ⟨by omega, q.2⟩⟩
  | some (.inr (.inl x)) :: b :: l, n + 1, v, 0, w, hi, h => by
    simp only [am_set2, am_nth, Option.some.injEq] at h
    exact Or.inr ⟨by omega, by omega, by rw [← h]; rfl, fun q => by obtain ⟨-, y, hy⟩ := q; rw [← h] at hy; cases hy⟩
  | some (.inr (.inl x)) :: b :: l, n + 1, v, k + 1, w, hi, h => by
    simp only [am_set2, am_nth] at h
    rcases am_set2_at (by simp only [List.length_cons] at hi ⊢; omega) h with ⟨h1, h2⟩ | ⟨h1, h1', h2, h3⟩
    · exact Or.inl ⟨by omega, h2⟩
    · exact Or.inr ⟨by omega, by omega, h2, fun q => h3 ⟨by omega, q.2⟩⟩
  | some (.inr (.inr x)) :: [b], 1, v, k, w, hi, h => by simp at hi
  | some (.inr (.inr x)) :: b :: b' :: l, 1, v, k, w, hi, h => by
    match k, h with
    | 0, h => simp [am_set2, am_nth] at h
    | 1, h => simp only [am_set2, am_nth, Option.some.injEq] at h; exact Or.inl ⟨rfl, h.symm⟩
    | 2, h => simp [am_set2, am_nth] at h
    | k + 3, h => simp only [am_set2, am_nth] at h; exact Or.inr ⟨by omega, by omega, h, fun q => by omega⟩
  | some (.inr (.inr x)) :: b :: l, n + 2, v, 0, w, hi, h => by
    simp only [am_set2, am_nth, Option.some.injEq] at h
    exact Or.inr ⟨by omega, by omega, by rw [← h]; rfl, fun q => by omega⟩
  | some (.inr (.inr x)) :: b :: l, n + 2, v, k + 1, w, hi, h => by
    simp only [am_set2, am_nth] at h
    rcases am_set2_at (by simp only [List.length_cons] at hi ⊢; omega) h with ⟨h1, h2⟩ | ⟨h1, h1', h2, h3⟩
    · exact Or.inl ⟨by omega, h2⟩
    · exact Or.inr ⟨by omega, by omega, h2, fun q => h3 ⟨by omega, q.2⟩⟩
/-- what a store leaves of the locals -/
theorem am_lv_set {ν : Nat → Nat → Nat} {n i : Nat} {ls : List (Option am_V)} {lsc ls' : Array Slot} {v : am_V} (h : am_lv ν n ls lsc) (hi : i < n)
    (h' : lv_has ls' n ((i, am_rv ν v) :: (am_prs ν 0 ls).filter (fun q => !(q.1 == i) && !(q.1 + 1 == i && q.2.category == 2)))) : am_lv ν n (am_set ls i v) ls' := by
  refine ⟨(am_set_len ls i v).trans h.1, h'.1, h'.2.1, fun k w hk => ?_⟩
  rcases am_set_at (by rw [h.1]; exact hi) hk with ⟨rfl, rfl⟩ | ⟨h1, h2, h3⟩
  · exact h'.2.2 _ List.mem_cons_self
  · refine h'.2.2 (k, am_rv ν w) (List.mem_cons_of_mem _ (List.mem_filter.mpr ⟨?_, ?_⟩))
    · have := am_prs_of (ν := ν) (j := 0) h2
      rw [Nat.zero_add] at this; exact this
    · have hc : ¬ (k + 1 = i ∧ (am_rv ν w).category = 2) := fun q => h3 ⟨q.1, am_cat2 q.2⟩
      simp only [Bool.and_eq_true, Bool.not_eq_true', beq_eq_false_iff_ne, ne_eq, Bool.and_eq_false_iff]
      refine ⟨h1, ?_⟩
      rcases Nat.decEq (k + 1) i with q | q
      · exact Or.inl q
      · exact Or.inr fun z => hc ⟨q, z⟩
theorem am_lv_set2 {ν : Nat → Nat → Nat} {n i : Nat} {ls : List (Option am_V)} {lsc ls' : Array Slot} {v : Int64} (h : am_lv ν n ls lsc) (hi : i + 1 < n)
    (h' : lv_has ls' n ((i, Value.long v) :: (am_prs ν 0 ls).filter (fun q => !(q.1 == i) && (!(q.1 == i + 1) && !(q.1 + 1 == i && q.2.category == 2))))) : am_lv ν n (am_set2 ls i v) ls' := by
  refine ⟨(am_set2_len ls i v).trans h.1, h'.1, h'.2.1, fun k w hk => ?_⟩
  rcases am_set2_at (by rw [h.1]; exact hi) hk with ⟨rfl, rfl⟩ | ⟨h1, h1', h2, h3⟩
  · exact h'.2.2 _ List.mem_cons_self
  · refine h'.2.2 (k, am_rv ν w) (List.mem_cons_of_mem _ (List.mem_filter.mpr ⟨?_, ?_⟩))
    · have := am_prs_of (ν := ν) (j := 0) h2
      rw [Nat.zero_add] at this; exact this
    · have hc : ¬ (k + 1 = i ∧ (am_rv ν w).category = 2) := fun q => h3 ⟨q.1, am_cat2 q.2⟩
      simp only [Bool.and_eq_true, Bool.not_eq_true', beq_eq_false_iff_ne, ne_eq, Bool.and_eq_false_iff]
      refine ⟨h1, h1', ?_⟩
      rcases Nat.decEq (k + 1) i with q | q
      · exact Or.inl q
      · exact Or.inr fun z => hc ⟨q, z⟩
theorem am_ent_at {ν : Nat → Nat → Nat} : ∀ {as : List am_V} {n j k : Nat} {w : am_V}, am_nth (am_ent n as) k none = some w → (j + k, am_rv ν w) ∈ lv_args j (as.map (am_rv ν))
  | [], n, j, k, w, h => by
    have := am_nth_lt h
    exfalso
    have hz : ∀ (n k : Nat), am_nth (List.replicate n (none : Option am_V)) k none = none := by
      intro n
      induction n with
      | zero => intro k; rfl
      | succ n ih => intro k; cases k with
        | zero => rfl
        | succ k => exact ih k
    simp only [am_ent, hz] at h
    cases h
  | .inl x :: as, n, j, 0, w, h => by simp only [am_ent, am_nth, Option.some.injEq] at h; subst h; exact List.mem_cons_self
  | .inl x :: as, n, j, k + 1, w, h => by
    simp only [am_ent, am_nth] at h
    have := am_ent_at (ν := ν) (j := j + 1) h
    rw [show j + 1 + k = j + (k + 1) by omega] at this
    exact List.mem_cons_of_mem _ this
  | .inr (.inl x) :: as, n, j, 0, w, h => by simp only [am_ent, am_nth, Option.some.injEq] at h; subst h; exact List.mem_cons_self
  | .inr (.inl x) :: as, n, j, k + 1, w, h => by
    simp only [am_ent, am_nth] at h
    have := am_ent_at (ν := ν) (j := j + 1) h
    rw [show j + 1 + k = j + (k + 1) by omega] at this
    exact List.mem_cons_of_mem _ this
  | .inr (.inr x) :: as, n, j, 0, w, h => by simp only [am_ent, am_nth, Option.some.injEq] at h; subst h; exact List.mem_cons_self
  | .inr (.inr x) :: as, n, j, 1, w, h => by simp [am_ent, am_nth] at h
  | .inr (.inr x) :: as, n, j, k + 2, w, h => by
    simp only [am_ent, am_nth] at h
    have := am_ent_at (ν := ν) (j := j + 2) h
    rw [show j + 2 + k = j + (k + 2) by omega] at this
    exact List.mem_cons_of_mem _ this
theorem am_ent_len : ∀ {as : List am_V} {n : Nat}, am_cat as ≤ n → (am_ent n as).length = n
  | [], n, h => by simp [am_ent]
  | .inl x :: as, n, h => by simp only [am_cat] at h; simp only [am_ent, List.length_cons, am_ent_len (as := as) (n := n - 1) (by omega)]; omega
  | .inr (.inl x) :: as, n, h => by simp only [am_cat] at h; simp only [am_ent, List.length_cons, am_ent_len (as := as) (n := n - 1) (by omega)]; omega
  | .inr (.inr x) :: as, n, h => by simp only [am_cat] at h; simp only [am_ent, List.length_cons, am_ent_len (as := as) (n := n - 2) (by omega)]; omega
theorem am_cat_sl {ν : Nat → Nat → Nat} : ∀ (as : List am_V), (lg_sl (as.map (am_rv ν))).length = am_cat as
  | [] => rfl
  | .inl x :: as => by
    have := am_cat_sl (ν := ν) as
    simp only [lg_sl] at this
    simp only [lg_sl, List.map_cons, List.flatMap_cons, List.length_append, am_cat, this]; simp [am_rv, Value.category]
  | .inr (.inl x) :: as => by
    have := am_cat_sl (ν := ν) as
    simp only [lg_sl] at this
    simp only [lg_sl, List.map_cons, List.flatMap_cons, List.length_append, am_cat, this]; simp [am_rv, Value.category]
  | .inr (.inr x) :: as => by
    have := am_cat_sl (ν := ν) as
    simp only [lg_sl] at this
    simp only [lg_sl, List.map_cons, List.flatMap_cons, List.length_append, am_cat, this]; simp [am_rv, Value.category]
theorem am_cat_sum {ν : Nat → Nat → Nat} : ∀ (as : List am_V), ((as.map (am_rv ν)).map fun v => v.category).sum = am_cat as
  | [] => rfl
  | .inl x :: as => by simp only [List.map_cons, List.sum_cons, am_cat, am_cat_sum as]; simp [am_rv, Value.category]
  | .inr (.inl x) :: as => by simp only [List.map_cons, List.sum_cons, am_cat, am_cat_sum as]; simp [am_rv, Value.category]
  | .inr (.inr x) :: as => by simp only [List.map_cons, List.sum_cons, am_cat, am_cat_sum as]; simp [am_rv, Value.category]
theorem am_pop_of : ∀ {n : Nat} {st acc as rest : List am_V}, am_pop n st acc = some (as, rest) → acc.reverse ++ st = as.reverse ++ rest ∧ as.length = acc.length + n
  | 0, st, acc, as, rest, h => by simp only [am_pop, Option.some.injEq, Prod.mk.injEq] at h; obtain ⟨rfl, rfl⟩ := h; exact ⟨rfl, rfl⟩
  | n + 1, [], acc, as, rest, h => by simp [am_pop] at h
  | n + 1, v :: st, acc, as, rest, h => by
    simp only [am_pop] at h
    obtain ⟨h1, h2⟩ := am_pop_of h
    refine ⟨by rw [← h1]; simp, by rw [h2]; simp; omega⟩
end
section
/-! what the abstract machine's steps mean on the machine -/
def am_tb : List Cond := lw_tbl.filter goodWord
theorem am_tb_in {i : Nat} {w : Cond} (h : lw_tbl[i]? = some w) (hg : goodWord w = true) : w ∈ am_tb := List.mem_filter.mpr ⟨List.mem_of_getElem? h, hg⟩
def am_Ctx (y : Nat) (p : Program) (s : State) (m : MethodId) (args : Array Value) (c : Code) : Prop :=
  p.tables.exec = Jvm.exec ∧ c.code = am_bt y ∧ c.maxLocals = am_ml y ∧ s.vm.findClass (am_on (am_mc y)) = some m.cls ∧ ∀ w ∈ am_tb, w.before args s = true
def am_Rm (d : Nat) (R : Room) (cells slots : Nat) : Prop := d ≤ R.frames ∧ 40 * d ≤ R.locals ∧ cells ≤ R.cells ∧ slots ≤ R.slots
def am_ret (y i : Nat) (r : Option am_V) : Prop :=
  (∃ x, r = some (.inl x) ∧ decode (am_bt y) (am_pc y i) = .ok (.ireturn, 1) ∧ (am_rt y = 0 ∨ (am_rt y = 1 ∧ (x = 0 ∨ x = 1)))) ∨
  (∃ x, r = some (.inr (.inr x)) ∧ decode (am_bt y) (am_pc y i) = .ok (.lreturn, 1) ∧ am_rt y = 3) ∨
  (∃ q, r = some (.inr (.inl q)) ∧ decode (am_bt y) (am_pc y i) = .ok (.areturn, 1) ∧ am_rt y = 4) ∨
  (r = none ∧ decode (am_bt y) (am_pc y i) = .ok (.return_, 1) ∧ am_rt y = 2)
def am_Sem : am_X := fun d y i ls st M Q => y < 138 → (∀ k v, am_nth ls k none = some v → am_okV v) → (∀ v ∈ st, am_okV v) →
  ∀ (p : Program) (l : Launch) (e : Env) (R : Room) (s : State) (m : MethodId) (args : Array Value) (below : List Frame) (meth : Method) (c : Code) (H : Heap) (locs : List Loc) (cells slots : Nat) (Qm : State → Prop)
    (ν : Nat → Nat → Nat) (dA : Nat → ClassId) (D : va_G) (A : Nat → Prop) (lsc : Array Slot),
    am_Ctx y p s m args c → am_Rm d R cells slots → am_Wd ν dA D A s H locs M → am_lv ν (am_ml y) ls lsc →
    (∀ (i' : Nat) (lsc' : Array Slot) (r : Option am_V) (M' : am_M) (H' : Heap) (locs' : List Loc), am_ret y i' r → (∀ v, r = some v → am_okV v) → Q r M' → am_Wd ν dA D A s H' locs' M' →
      W p l e R s m args below meth c H' locs' cells slots Qm (F0 m (am_pc y i') lsc' (r.map (am_rv ν)).toList)) →
    W p l e R s m args below meth c H locs cells slots Qm (F0 m (am_pc y i) lsc (st.map (am_rv ν)))
def am_W0 (ν : Nat → Nat → Nat) (dA : Nat → ClassId) (D : va_G) (A : Nat → Prop) (M : am_M) (U : State) : Prop :=
  va_K D am_cl (am_aT dA) U ∧ va_P D am_cl (am_ws ν dA M) U.heap ∧ va_D A (am_ws ν dA M) ∧ am_okM M ∧ am_St ν A M U U.heap
def am_Qc (ν : Nat → Nat → Nat) (dA : Nat → ClassId) (D : va_G) (A : Nat → Prop) (Q : am_P) : Array Value → State → Outcome → State → Prop := fun _ st o t =>
  (∃ (r : Option am_V) (M' : am_M), Q r M' ∧ o = .returned (r.map (am_rv ν)) ∧ (∀ v, r = some v → am_okV v) ∧ am_W0 ν dA D A M' t) ∧ va_F A st t
def am_wsM (y : Nat) : List Cond := Cond.code (am_mn y) (am_bt y) (am_ml y) (am_rtT y) :: am_tb
theorem am_St_moved {ν : Nat → Nat → Nat} {A : Nat → Prop} {M : am_M} {u U : State} {H H' : Heap} (hvm : u.vm.Alike U.vm) (hz : H.size ≤ H'.size) (hk : ∀ q : Nat, q < H.size → ¬ A q → H'[q]? = H[q]?) (h : am_St ν A M u H) : am_St ν A M U H' := by
  refine ⟨fun f hf => ?_, (h.2.1.moved hvm).kept (hk _ h.2.2.1 h.2.2.2), Nat.lt_of_lt_of_le h.2.2.1 hz, h.2.2.2⟩
  obtain ⟨h1, h2, h3, h4⟩ := h.1 f hf
  exact ⟨(h1.moved hvm).kept hk, (h2.moved hvm).kept (hk _ h3 h4), Nat.lt_of_lt_of_le h3 hz, h4⟩
/-- back from a later heap of which the old part outside A is the same -/
theorem am_St_back {ν : Nat → Nat → Nat} {A : Nat → Prop} {M M0 : am_M} {u U : State} {H H' : Heap} (hvm : u.vm.Alike U.vm) (hk : ∀ q : Nat, q < H.size → ¬ A q → H'[q]? = H[q]?) (h0 : am_St ν A M0 U H) (h : am_St ν A M u H') : am_St ν A M U H := by
  refine ⟨h0.1, (h.2.1.moved hvm).kept (hk _ h0.2.2.1 h0.2.2.2).symm, h0.2.2.1, h0.2.2.2⟩
theorem Met.ofWF {l : Launch} {y : MethodName} {ws ws' : List Cond} {rm : Room} {Pc : Array Value → State → Prop} {Qc : Array Value → State → Outcome → State → Prop} {mc ms : Nat} {free : Addr → Prop} {cc : ByteArray} {maxL : Nat} {ret : Option FieldType}
    (hy : plainFor y = true) (hw : ws = Cond.code y cc maxL ret :: ws')
    (body : ∀ p e s m args below meth c s₁, BodyLoose p l y (headSpec ws rm) cc maxL ret e s m args below meth c s₁ → c.maxLocals = maxL → Pc args s →
      W p l e (headSpec ws rm).room s m args below meth c s.heap [] 0 0 (MQ below Qc args s mc ms free) (entryFrame m args maxL)) : Met l y ws rm Pc Qc mc ms free := by
  refine MetFree.of_bodySF (code := cc) (maxLocals := maxL) (ret := ret) hy ?_ ?_
  · intro args s m h hn
    obtain ⟨meth, c, h1, h2, h3, h4, h5, h6, -, -⟩ := Cond.code_spec hn (atoms_spec (ws := ws) h _ (by rw [hw]; exact List.mem_cons_self))
    exact ⟨meth, c, h1, h2, h3, h4, h5, h6⟩
  · intro p e s m args below meth c s₁ B hml hP _
    have hh0 : s₁.heap = s.heap := by rw [B.state]; rfl
    obtain ⟨t, a1, o, b1, b2, b3⟩ := body p e s m args below meth c s₁ B hml hP s₁ hh0 (Stand.of_body B)
    exact ⟨t, o, a1, b1, b2, ⟨b3.1, b3.2⟩⟩
theorem am_pc0 : ∀ y, y < 138 → am_pc y 0 = 0 := by decide +kernel
theorem am_rt_ok : ∀ y, y < 137 → (am_rt y = 0 → am_rtT y = some .int) ∧ (am_rt y = 1 → am_rtT y = some .boolean) ∧ (am_rt y = 2 → am_rtT y = none) ∧ (am_rt y = 3 → am_rtT y = some .long) ∧ (am_rt y = 4 → am_rtT y = some (.object "WhoIsWho$Scan")) := by decide +kernel
theorem am_met {l : Launch} {y d : Nat} (hy : y < 137) {as : List am_V} {M : am_M} {Q : am_P} (h : am_Sem d y 0 (am_ent (am_ml y) as) [] M Q) (hok : ∀ v ∈ as, am_okV v) (hcat : am_cat as ≤ am_ml y) (ν : Nat → Nat → Nat) (dA : Nat → ClassId) (D : va_G) (A : Nat → Prop) :
    Met l (am_mn y) (am_wsM y) { frames := d, cells := 0, slots := 0, locals := 40 * d } (va_Pc (as.map (am_rv ν)) (am_W0 ν dA D A M)) (am_Qc ν dA D A Q) 0 0 A := by
  refine Met.ofWF (cc := am_bt y) (maxL := am_ml y) (ret := am_rtT y) (am_mw_pn y (by omega)).1 rfl ?_
  intro p e s m args below meth c s₁ B hml hv
  obtain ⟨rfl, hK, hP, hD, hM, hSt⟩ := hv
  have hts := atoms_spec (ws := am_wsM y) B.pre
  have hown : s.vm.findClass (am_mn y).cls = some m.cls := findClass_of_methodNamed B.named
  have hlocks := B.notSynchronized
  have hr := B.returns
  have hl := lv_entry (as.map (am_rv ν)) (n := am_ml y) (by rw [am_cat_sl]; exact hcat)
  rw [lg_entry_eq]
  generalize (lg_sl (as.map (am_rv ν)) ++ List.replicate (am_ml y - (lg_sl (as.map (am_rv ν))).length) Slot.unset).toArray = lsc at hl ⊢
  have hlv : am_lv ν (am_ml y) (am_ent (am_ml y) as) lsc := by
    refine ⟨am_ent_len hcat, hl.1, hl.2.1, fun k v hk => ?_⟩
    have := am_ent_at (ν := ν) (j := 0) hk
    rw [Nat.zero_add] at this
    exact hl.2.2 _ this
  have hokL : ∀ k v, am_nth (am_ent (am_ml y) as) k none = some v → am_okV v := by
    have key : ∀ (as : List am_V) (n : Nat), (∀ v ∈ as, am_okV v) → ∀ k v, am_nth (am_ent n as) k none = some v → am_okV v := by
      intro as
      induction as with
      | nil =>
        intro n _ k v hk
        have := am_ent_at (ν := ν) (j := 0) hk
        simp [lv_args] at this
      | cons a as ih =>
        intro n hn k v hk
        have ha := hn a List.mem_cons_self
        have hr := fun v hv => hn v (List.mem_cons_of_mem _ hv)
        rcases a with x | x | x
        · cases k with
          | zero => simp only [am_ent, am_nth, Option.some.injEq] at hk; subst hk; exact ha
          | succ k => simp only [am_ent, am_nth] at hk; exact ih _ hr k v hk
        · cases k with
          | zero => simp only [am_ent, am_nth, Option.some.injEq] at hk; subst hk; exact ha
          | succ k => simp only [am_ent, am_nth] at hk; exact ih _ hr k v hk
        · match k, hk with
          | 0, hk => simp only [am_ent, am_nth, Option.some.injEq] at hk; subst hk; exact ha
          | 1, hk => simp [am_ent, am_nth] at hk
          | k + 2, hk => simp only [am_ent, am_nth] at hk; exact ih _ hr k v hk
    exact key as _ hok
  have h0 := am_pc0 y (by omega)
  rw [show F0 m 0 lsc [] = F0 m (am_pc y 0) lsc (([] : List am_V).map (am_rv ν)) by rw [h0]; rfl]
  refine h (by omega) hokL (fun v hv => by simp at hv) p l e (headSpec (am_wsM y) _).room s m _ below meth c s.heap [] 0 0 _ ν dA D A lsc ⟨B.exec, B.bytes, hml, by rw [← am_mw_cn y (by omega)]; exact hown, fun w hw => hts w (List.mem_cons_of_mem _ hw)⟩ ⟨Nat.le_refl d, Nat.le_refl (40 * d), Nat.zero_le _, Nat.zero_le _⟩ ⟨hK, hP, hD, va_S.rf, hM, hSt⟩ hlv ?_
  intro i' lsc' r M' H' locs' hret hokr hq hWd
  obtain ⟨hK', hP', hD', hS', hM', hSt'⟩ := hWd
  have hpost : ∀ t : State, t.heap = H' → s.WarmedH t.vm → am_Qc ν dA D A Q (as.map (am_rv ν)).toArray s (.returned (r.map (am_rv ν))) t := by
    intro t ht hvm
    refine ⟨⟨r, M', hq, rfl, hokr, va_K.moved hvm.alike hK', by rw [ht]; exact hP', hD', hM', ?_⟩, hS'.F ht⟩
    rw [ht]
    exact am_St_moved hvm.alike hS'.1 hS'.2.1 hSt'
  have hrt := am_rt_ok y hy
  rcases hret with ⟨x, rfl, hd, hb⟩ | ⟨x, rfl, hd, hb⟩ | ⟨q, rfl, hd, hb⟩ | ⟨rfl, hd, hb⟩
  · rcases hb with hb | ⟨hb, hx⟩
    · exact W.iret B.exec B.bytes (hr.trans (hrt.1 hb)) hpost hS'.2.2 hd
    · refine W.zret B.exec B.bytes (hr.trans (hrt.2.1 hb)) ?_ hpost hS'.2.2 hd
      rcases hx with rfl | rfl <;> rfl
  · exact W.lret B.exec B.bytes (hr.trans (hrt.2.2.2.1 hb)) hpost hS'.2.2 hd
  · exact W.aret B.exec B.bytes (hr.trans (hrt.2.2.2.2 hb)) (Or.inl ⟨_, rfl⟩) (Or.inr ⟨_, rfl⟩) hpost hS'.2.2 hd
  · exact W.vret B.exec B.bytes (hr.trans (hrt.2.2.1 hb)) hpost hS'.2.2 hd
end
section
/-! how a write of the abstract machine changes its cells -/
theorem am_i_e {st : List am_V} {K : Int32 → List am_V → Prop} (h : am_i st K) : ∃ x r, st = .inl x :: r ∧ K x r := by
  unfold am_i at h; split at h
  · exact ⟨_, _, rfl, h⟩
  · exact h.elim
theorem am_r_e {st : List am_V} {K : Nat → Nat → List am_V → Prop} (h : am_r st K) : ∃ f i r, st = .inr (.inl (f, i)) :: r ∧ K f i r := by
  unfold am_r at h; split at h
  · exact ⟨_, _, _, rfl, h⟩
  · exact h.elim
theorem am_l_e {st : List am_V} {K : Int64 → List am_V → Prop} (h : am_l st K) : ∃ x r, st = .inr (.inr x) :: r ∧ K x r := by
  unfold am_l at h; split at h
  · exact ⟨_, _, rfl, h⟩
  · exact h.elim
theorem am_ii_e {st : List am_V} {K : Int32 → Int32 → List am_V → Prop} (h : am_ii st K) : ∃ x y r, st = .inl y :: .inl x :: r ∧ K x y r := by
  obtain ⟨y, r1, e1, h1⟩ := am_i_e h
  obtain ⟨x, r2, e2, h2⟩ := am_i_e h1
  exact ⟨x, y, r2, by rw [e1, e2], h2⟩
theorem am_ll_e {st : List am_V} {K : Int64 → Int64 → List am_V → Prop} (h : am_ll st K) : ∃ x y r, st = .inr (.inr y) :: .inr (.inr x) :: r ∧ K x y r := by
  obtain ⟨y, r1, e1, h1⟩ := am_l_e h
  obtain ⟨x, r2, e2, h2⟩ := am_l_e h1
  exact ⟨x, y, r2, by rw [e1, e2], h2⟩
theorem am_vi_e {v : Option am_V} {K : Int32 → Prop} (h : am_vi v K) : ∃ x, v = some (.inl x) ∧ K x := by
  unfold am_vi at h; split at h
  · exact ⟨_, rfl, h⟩
  · exact h.elim
theorem am_vr_e {v : Option am_V} {K : Nat → Nat → Prop} (h : am_vr v K) : ∃ f i, v = some (.inr (.inl (f, i))) ∧ K f i := by
  unfold am_vr at h; split at h
  · exact ⟨_, _, rfl, h⟩
  · exact h.elim
theorem am_vl_e {v : Option am_V} {K : Int64 → Prop} (h : am_vl v K) : ∃ x, v = some (.inr (.inr x)) ∧ K x := by
  unfold am_vl at h; split at h
  · exact ⟨_, rfl, h⟩
  · exact h.elim
theorem am_b_e {c : Bool} {P : Prop} (h : bif c then P else False) : c = true ∧ P := by
  cases c
  · exact h.elim
  · exact ⟨rfl, h⟩
theorem am_bf {a b : Nat} (h : a ≠ b) : Nat.beq a b = false := by
  cases hb : Nat.beq a b with
  | false => rfl
  | true => exact absurd (Nat.eq_of_beq_eq_true hb) h
theorem am_sv_at {M : am_M} {f n j f' k : Nat} : (am_sv M f n j).2.1 f' k = if f' = f ∧ k = n then j else M.2.1 f' k := rfl
theorem am_nth_ge {α : Type} {l : List α} {k : Nat} {d : α} (h : l.length ≤ k) : am_nth l k d = d := by
  induction l generalizing k with
  | nil => rfl
  | cons a l ih => cases k with
    | zero => simp at h
    | succ k => exact ih (by simp at h; omega)
theorem am_fam_ge {f : Nat} (h : 62 ≤ f) : am_kind f = 9 := by
  unfold am_kind; rw [am_nth_ge (show am_fam.length ≤ f from h)]
theorem am_k0' : ∀ f, f < 62 → am_kind f = 0 → f < 59 ∧ am_cls f < 11 ∧ am_len0 f = am_Nc (am_cls f) := by decide +kernel
theorem am_k0 {f : Nat} (h : am_kind f = 0) : f < 59 ∧ am_cls f < 11 ∧ am_len0 f = am_Nc (am_cls f) := by
  rcases Nat.lt_or_ge f 62 with q | q
  · exact am_k0' f q h
  · rw [am_fam_ge q] at h; cases h
theorem am_k1' : ∀ f, f < 62 → am_kind f = 1 → f < 59 ∨ f = 59 ∨ f = 60 ∨ f = 61 := by decide +kernel
theorem am_k1 {f : Nat} (h : am_kind f = 1) : f < 59 ∨ f = 59 ∨ f = 60 ∨ f = 61 := by
  rcases Nat.lt_or_ge f 62 with q | q
  · exact am_k1' f q h
  · rw [am_fam_ge q] at h; cases h
theorem am_k2' : ∀ f, f < 62 → am_kind f = 2 → f < 59 := by decide +kernel
theorem am_k2 {f : Nat} (h : am_kind f = 2) : f < 59 := by
  rcases Nat.lt_or_ge f 62 with q | q
  · exact am_k2' f q h
  · rw [am_fam_ge q] at h; cases h
theorem am_k3' : ∀ f, f < 62 → am_kind f = 3 → f = 4 ∨ f = 9 ∨ f = 12 ∨ f = 25 := by decide +kernel
theorem am_k3 {f : Nat} (h : am_kind f = 3) : f = 4 ∨ f = 9 ∨ f = 12 ∨ f = 25 := by
  rcases Nat.lt_or_ge f 62 with q | q
  · exact am_k3' f q h
  · rw [am_fam_ge q] at h; cases h
theorem am_l0' : ∀ f, f < 62 → am_len0 f < 400 := by decide +kernel
theorem am_l0 (f : Nat) : am_len0 f < 400 := by
  rcases Nat.lt_or_ge f 62 with q | q
  · exact am_l0' f q
  · unfold am_len0; rw [am_nth_ge (show am_fam.length ≤ f from q)]; decide
theorem am_len_lt (M : am_M) (f : Nat) : am_len M f < 2 ^ 31 := by
  unfold am_len
  cases Nat.beq f 61
  · have := am_l0 f; show am_len0 f < _; omega
  · show (M.1 61 1 0).toNatClampNeg < _
    have := Int32.toInt_lt (M.1 61 1 0)
    have h2 : (M.1 61 1 0).toNatClampNeg = (M.1 61 1 0).toInt.toNat := rfl
    omega
theorem am_len_eq {M : am_M} {f : Nat} (h : f ≠ 61) : am_len M f = am_len0 f := by
  unfold am_len
  rw [am_bf h]; rfl
theorem am_cl_full : ∀ c, c < 11 → am_cl[c]? = some (am_on c, am_Tc c, am_Nc c) := fun c h => match c, h with
  | 0, _ => rfl | 1, _ => rfl | 2, _ => rfl | 3, _ => rfl | 4, _ => rfl | 5, _ => rfl | 6, _ => rfl | 7, _ => rfl | 8, _ => rfl | 9, _ => rfl | 10, _ => rfl
  | n + 11, h => absurd h (by omega)
theorem am_fty0 : ∀ c, c < 11 → ∀ k, k < am_Nc c → am_fty c k = 0 → am_Yc c k = .int ∧ (am_Tc c k).2.2.2 = false := by decide +kernel
theorem am_fty1 : ∀ c, c < 11 → ∀ k, k < am_Nc c → am_fty c k = 1 → am_Yc c k = .boolean ∧ (am_Tc c k).2.2.2 = false := by decide +kernel
theorem am_fv_c {M M' : am_M} {c f i k : Nat} (h1 : M'.1 f i k = M.1 f i k) (h2 : am_fty c k = 2 → am_riF M' f i k = am_riF M f i k) (h3 : am_fty c k = 3 → M'.2.2 = M.2.2) : am_fv M' c f i k = am_fv M c f i k := by
  unfold am_fv
  split
  · rename_i h; rw [h2 h]
  · rename_i h; rw [h3 h]
  · rw [h1]
theorem am_cell_c {ν : Nat → Nat → Nat} {dA : Nat → ClassId} {M M' : am_M} {f i : Nat} (h1 : M'.1 f i = M.1 f i) (h2 : ∀ k, am_riF M' f i k = am_riF M f i k) (h3 : ∀ k, k < am_len0 f → am_kind f = 0 → am_fty (am_cls f) k = 3 → M'.2.2 = M.2.2) (h4 : ∀ k, am_kind f = 3 → am_riA M' f i k = am_riA M f i k) : am_cell ν dA M' f i = am_cell ν dA M f i := by
  unfold am_cell
  split
  · rename_i hk
    congr 2
    apply List.map_congr_left
    intro k hkm
    rw [am_fv_c (by rw [h1]) (fun _ => h2 k) (h3 k (List.mem_range.mp hkm) hk)]
  · rw [h1]
  · rw [h1]
  · rename_i n e1 e2 e3
    have e : (fun k => some (ν (am_rfA f) (am_riA M' f i k))) = (fun k => some (ν (am_rfA f) (am_riA M f i k))) := by
      funext k
      by_cases hk : am_kind f = 3
      · rw [h4 k hk]
      · have hf : 62 ≤ f := by
          rcases Nat.lt_or_ge f 62 with q | q
          · have : ∀ f, f < 62 → am_kind f = 0 ∨ am_kind f = 1 ∨ am_kind f = 2 ∨ am_kind f = 3 := by decide +kernel
            rcases this f q with z | z | z | z
            · exact absurd z e1
            · exact absurd z e2
            · exact absurd z e3
            · exact absurd z hk
          · exact q
        unfold am_riA
        rw [am_bf (show f ≠ 4 by omega), am_bf (show f ≠ 12 by omega)]; rfl
    rw [e]
theorem am_si_row {M : am_M} {f i k f' i' : Nat} {x : Int32} (h : (f', i') ≠ (f, i)) : (am_si M f i k x).1 f' i' = M.1 f' i' := by
  funext k'
  show (if f' = f ∧ i' = i ∧ k' = k then x else M.1 f' i' k') = _
  rw [if_neg]
  rintro ⟨rfl, rfl, -⟩
  exact h rfl
theorem am_si_upd {M : am_M} {f i k : Nat} {x : Int32} : (am_si M f i k x).1 f i = upd (M.1 f i) k x := by
  funext k'
  show (if f = f ∧ i = i ∧ k' = k then x else M.1 f i k') = if k' = k then x else M.1 f i k'
  simp
theorem am_si_other {ν : Nat → Nat → Nat} {dA : Nat → ClassId} {M : am_M} {f i k : Nat} {x : Int32} : ∀ f' i', (f', i') ∈ am_nms → (f', i') ≠ (f, i) → am_cell ν dA (am_si M f i k x) f' i' = am_cell ν dA M f' i' :=
  fun f' i' _ h => am_cell_c (am_si_row h) (fun _ => rfl) (fun _ _ _ _ => rfl) (fun _ _ => rfl)
theorem am_si_obj {ν : Nat → Nat → Nat} {dA : Nat → ClassId} {M : am_M} {f i k : Nat} {x : Int32} (hk : am_kind f = 0) (ht : am_fty (am_cls f) k = 0 ∨ am_fty (am_cls f) k = 1) : am_cell ν dA (am_si M f i k x) f i = .inr (am_cls f, ((List.range (am_len0 f)).map fun k => am_rv ν (am_fv M (am_cls f) f i k)).set k (.int x)) := by
  rw [show am_cell ν dA (am_si M f i k x) f i = .inr (am_cls f, (List.range (am_len0 f)).map fun j => am_rv ν (am_fv (am_si M f i k x) (am_cls f) f i j)) from by unfold am_cell; rw [hk]; rfl]
  refine congrArg (fun z => (.inr (am_cls f, z) : va_E)) ?_
  apply List.ext_getElem?
  intro j
  rw [List.getElem?_map]
  by_cases hj : j < am_len0 f
  · rw [List.getElem?_range hj]
    by_cases e : j = k
    · subst e
      rw [List.getElem?_set_self (by simpa using hj)]
      have : am_fv (am_si M f i j x) (am_cls f) f i j = .inl x := by
        unfold am_fv
        have hx : (am_si M f i j x).1 f i j = x := by rw [am_si_upd]; simp [upd]
        rcases ht with ht | ht <;> rw [ht] <;> simp [hx]
      show some (am_rv ν (am_fv (am_si M f i j x) (am_cls f) f i j)) = _
      rw [this]; rfl
    · rw [List.getElem?_set_ne (Ne.symm e), List.getElem?_map, List.getElem?_range hj]
      show some (am_rv ν (am_fv (am_si M f i k x) (am_cls f) f i j)) = some (am_rv ν (am_fv M (am_cls f) f i j))
      rw [am_fv_c (M := M) (M' := am_si M f i k x) (by rw [am_si_upd]; simp [upd, e]) (fun _ => rfl) (fun _ => rfl)]
  · have h1 : (List.range (am_len0 f))[j]? = none := by simp; omega
    rw [h1, List.getElem?_eq_none (by simp; omega)]; rfl
theorem am_sl_other {ν : Nat → Nat → Nat} {dA : Nat → ClassId} {M : am_M} {x : Int64} : ∀ f' i', (f', i') ∈ am_nms → (f', i') ≠ (10, 0) → am_cell ν dA (am_sl M x) f' i' = am_cell ν dA M f' i' := by
  intro f' i' hm hne
  refine am_cell_c rfl (fun _ => rfl) (fun k hk h0 h3 => ?_) (fun _ _ => rfl)
  exfalso
  obtain ⟨hf, hi⟩ := am_nms_ok hm
  have key : ∀ f, f < 59 → ∀ k, k < am_len0 f → am_kind f = 0 → am_fty (am_cls f) k = 3 → f = 10 := by decide +kernel
  have := key f' hf k hk h0 h3
  subst this
  have : i' = 0 := by have h1 : am_cnt 10 = 1 := rfl; rw [h1] at hi; omega
  subst this
  exact hne rfl
theorem am_sl_obj {ν : Nat → Nat → Nat} {dA : Nat → ClassId} {M : am_M} {x : Int64} : am_cell ν dA (am_sl M x) 10 0 = .inr (3, ((List.range 12).map fun k => am_rv ν (am_fv M 3 10 0 k)).set 4 (.long x)) := rfl
theorem am_sv_keep {ν : Nat → Nat → Nat} {dA : Nat → ClassId} {M : am_M} {b j : Nat} : ∀ f' i', (f', i') ∈ am_nms → (f', i') ≠ (8, 0) → am_cell ν dA (am_sv M 8 b j) f' i' = am_cell ν dA M f' i' := by
  intro f' i' hm hne
  obtain ⟨hf, hi⟩ := am_nms_ok hm
  have h8 : f' ≠ 8 := by
    rintro rfl
    have h1 : am_cnt 8 = 1 := rfl
    rw [h1] at hi
    have : i' = 0 := by omega
    subst this; exact hne rfl
  refine am_cell_c rfl (fun k => ?_) (fun _ _ _ _ => rfl) (fun k _ => ?_)
  · unfold am_riF
    rw [am_bf h8]; rfl
  · unfold am_riA
    show (bif Nat.beq f' 4 then (am_sv M 8 b j).2.1 4 k else bif Nat.beq f' 12 then (am_sv M 8 b j).2.1 12 k else _) = _
    have e1 : (am_sv M 8 b j).2.1 4 k = M.2.1 4 k := by rw [am_sv_at, if_neg (by omega)]
    have e2 : (am_sv M 8 b j).2.1 12 k = M.2.1 12 k := by rw [am_sv_at, if_neg (by omega)]
    rw [e1, e2]
theorem am_sv_obj {ν : Nat → Nat → Nat} {dA : Nat → ClassId} {M : am_M} {b j : Nat} (hb : b = 0 ∨ b = 2) : am_cell ν dA (am_sv M 8 b j) 8 0 = .inr (2, ((List.range 4).map fun k => am_rv ν (am_fv M 2 8 0 k)).set b (.ref (ν 9 j))) := by
  rcases hb with rfl | rfl <;> rfl
theorem am_sv_arr {ν : Nat → Nat → Nat} {dA : Nat → ClassId} {M : am_M} {f n j : Nat} (hf : f = 4 ∨ f = 12) : ∀ f' i', (f', i') ∈ am_nms → (f', i') ≠ (f, 0) → am_cell ν dA (am_sv M f n j) f' i' = am_cell ν dA M f' i' := by
  intro f' i' hm hne
  obtain ⟨hf', hi⟩ := am_nms_ok hm
  have h8 : f' ≠ f := by
    rintro rfl
    have h1 : am_cnt f' = 1 := by rcases hf with rfl | rfl <;> rfl
    rw [h1] at hi
    have : i' = 0 := by omega
    subst this; exact hne rfl
  refine am_cell_c rfl (fun k => ?_) (fun _ _ _ _ => rfl) (fun k _ => ?_)
  · unfold am_riF
    have e1 : (am_sv M f n j).2.1 8 k = M.2.1 8 k := by rw [am_sv_at, if_neg (by omega)]
    rw [e1]
  · unfold am_riA
    rcases hf with rfl | rfl
    · rw [am_bf h8]
      have e2 : (am_sv M 4 n j).2.1 12 k = M.2.1 12 k := by rw [am_sv_at, if_neg (by omega)]
      rw [e2]; rfl
    · rw [am_bf h8]
      have e2 : (am_sv M 12 n j).2.1 4 k = M.2.1 4 k := by rw [am_sv_at, if_neg (by omega)]
      rw [e2]; rfl
theorem am_sr_other {ν : Nat → Nat → Nat} {dA : Nat → ClassId} {M : am_M} {f i : Nat} {r : Nat → Int32} : ∀ f' i', (f', i') ∈ am_nms → (f', i') ≠ (f, i) → am_cell ν dA (am_sr M f i r) f' i' = am_cell ν dA M f' i' := by
  intro f' i' _ h
  refine am_cell_c ?_ (fun _ => rfl) (fun _ _ _ _ => rfl) (fun _ _ => rfl)
  funext k'
  show (if f' = f ∧ i' = i then r k' else M.1 f' i' k') = _
  rw [if_neg]
  rintro ⟨rfl, rfl⟩
  exact h rfl
theorem am_sr_row {M : am_M} {f i : Nat} {r : Nat → Int32} : (am_sr M f i r).1 f i = r := by
  funext k
  show (if f = f ∧ i = i then r k else M.1 f i k) = r k
  simp
end
section
theorem am_St_si {ν : Nat → Nat → Nat} {A : Nat → Prop} {M : am_M} {U : State} {H0 : Heap} {f i k : Nat} {x : Int32} (hf : f < 59) (h : am_St ν A M U H0) : am_St ν A (am_si M f i k x) U H0 := by
  have e0 : (am_si M f i k x).1 61 0 = M.1 61 0 := am_si_row (fun q => by have := congrArg Prod.fst q; simp at this; omega)
  have e1 : (am_si M f i k x).1 61 1 = M.1 61 1 := am_si_row (fun q => by have := congrArg Prod.fst q; simp at this; omega)
  have e2 : am_len (am_si M f i k x) 61 = am_len M 61 := by
    show ((am_si M f i k x).1 61 1 0).toNatClampNeg = (M.1 61 1 0).toNatClampNeg
    rw [e1]
  refine ⟨h.1, ?_, h.2.2⟩
  rw [e0, e2]; exact h.2.1
theorem am_St_sr {ν : Nat → Nat → Nat} {A : Nat → Prop} {M : am_M} {U : State} {H0 : Heap} {f i : Nat} {r : Nat → Int32} (hf : f < 59) (h : am_St ν A M U H0) : am_St ν A (am_sr M f i r) U H0 := by
  have e : ∀ j k, (am_sr M f i r).1 61 j k = M.1 61 j k := by
    intro j k
    show (if 61 = f ∧ j = i then r k else M.1 61 j k) = _
    rw [if_neg (by omega)]
  have e0 : (am_sr M f i r).1 61 0 = M.1 61 0 := by funext k; exact e 0 k
  have e2 : am_len (am_sr M f i r) 61 = am_len M 61 := by
    show ((am_sr M f i r).1 61 1 0).toNatClampNeg = (M.1 61 1 0).toNatClampNeg
    rw [e]
  refine ⟨h.1, ?_, h.2.2⟩
  rw [e0, e2]; exact h.2.1
/-! one step of the abstract machine is the machine's -/
theorem am_okc {v : am_V} {st : List am_V} (h : am_okV v) (hs : ∀ w ∈ st, am_okV w) : ∀ w ∈ v :: st, am_okV w := by
  intro w hw
  rcases List.mem_cons.mp hw with rfl | hw
  · exact h
  · exact hs w hw
theorem am_okt {v : am_V} {st : List am_V} (hs : ∀ w ∈ v :: st, am_okV w) : ∀ w ∈ st, am_okV w := fun w hw => hs w (List.mem_cons_of_mem _ hw)
theorem am_okset {ls : List (Option am_V)} {i : Nat} {v : am_V} (hi : i < ls.length) (hl : ∀ k v, am_nth ls k none = some v → am_okV v) (hv : am_okV v) : ∀ k w, am_nth (am_set ls i v) k none = some w → am_okV w := by
  intro k w h
  rcases am_set_at hi h with ⟨-, rfl⟩ | ⟨-, h2, -⟩
  · exact hv
  · exact hl k w h2
theorem am_okset2 {ls : List (Option am_V)} {i : Nat} {v : Int64} (hi : i + 1 < ls.length) (hl : ∀ k v, am_nth ls k none = some v → am_okV v) : ∀ k w, am_nth (am_set2 ls i v) k none = some w → am_okV w := by
  intro k w h
  rcases am_set2_at hi h with ⟨-, rfl⟩ | ⟨-, -, h2, -⟩
  · trivial
  · exact hl k w h2
theorem am_beq {a b : Nat} (h : Nat.beq a b = true) : a = b := Nat.eq_of_beq_eq_true h
theorem am_blt {a b : Nat} (h : Nat.blt a b = true) : a < b := by
  unfold Nat.blt at h; exact Nat.le_of_ble_eq_true h
theorem am_lay_good : ∀ c, c < 11 → ∀ w ∈ u_ws (am_on c) (am_Tc c) (am_Nc c), goodWord w = true := by decide +kernel
theorem am_lay {c : Nat} (h : c < 11) : ∀ w ∈ u_ws (am_on c) (am_Tc c) (am_Nc c), w ∈ am_tb := by
  intro w hw
  refine List.mem_filter.mpr ⟨?_, am_lay_good c h w hw⟩
  rw [am_lp_ok c h] at hw
  obtain ⟨i, -, hi⟩ := List.mem_filterMap.mp hw
  exact List.mem_of_getElem? hi
theorem am_has5_e {l : List (Nat × Nat × Nat × Nat × Nat)} {a b c d : Nat} (h : am_has5 l a b c d = true) : ∃ e, (a, b, c, d, e) ∈ l := by
  unfold am_has5 at h
  obtain ⟨⟨x1, x2, x3, x4, x5⟩, hm, hq⟩ := List.any_eq_true.mp h
  simp only [Bool.and_eq_true] at hq
  obtain ⟨⟨⟨h1, h2⟩, h3⟩, h4⟩ := hq
  rw [am_beq h1, am_beq h2, am_beq h3, am_beq h4] at hm
  exact ⟨_, hm⟩
theorem am_has4_e {l : List (Nat × Nat × Nat × Nat)} {a b c : Nat} (h : am_has4 l a b c = true) : ∃ e, (a, b, c, e) ∈ l := by
  unfold am_has4 at h
  obtain ⟨⟨x1, x2, x3, x4⟩, hm, hq⟩ := List.any_eq_true.mp h
  simp only [Bool.and_eq_true] at hq
  obtain ⟨⟨h1, h2⟩, h3⟩ := hq
  rw [am_beq h1, am_beq h2, am_beq h3] at hm
  exact ⟨_, hm⟩
theorem am_has3_e {l : List (Nat × Nat × Nat)} {a b : Nat} (h : am_has3 l a b = true) : ∃ e, (a, b, e) ∈ l := by
  unfold am_has3 at h
  obtain ⟨⟨x1, x2, x3⟩, hm, hq⟩ := List.any_eq_true.mp h
  simp only [Bool.and_eq_true] at hq
  obtain ⟨h1, h2⟩ := hq
  rw [am_beq h1, am_beq h2] at hm
  exact ⟨_, hm⟩
theorem am_hasC_e {l : List (Nat × Nat × Int32 × Nat)} {a b : Nat} {z : Int32} (h : am_hasC l a b z = true) : ∃ e, (a, b, z, e) ∈ l := by
  unfold am_hasC at h
  obtain ⟨⟨x1, x2, x3, x4⟩, hm, hq⟩ := List.any_eq_true.mp h
  simp only [Bool.and_eq_true, decide_eq_true_eq] at hq
  obtain ⟨⟨h1, h2⟩, h3⟩ := hq
  rw [am_beq h1, am_beq h2, h3] at hm
  exact ⟨_, hm⟩
theorem am_cell_obj {ν : Nat → Nat → Nat} {dA : Nat → ClassId} {M : am_M} {f i : Nat} (hk : am_kind f = 0) : am_cell ν dA M f i = .inr (am_cls f, (List.range (am_len0 f)).map fun k => am_rv ν (am_fv M (am_cls f) f i k)) := by
  unfold am_cell; rw [hk]; rfl
theorem am_cell_int {ν : Nat → Nat → Nat} {dA : Nat → ClassId} {M : am_M} {f i : Nat} (hk : am_kind f = 1) : am_cell ν dA M f i = .inl (dA 0, am_len0 f, .inl (M.1 f i)) := by
  unfold am_cell; rw [hk]; rfl
theorem am_cell_bool {ν : Nat → Nat → Nat} {dA : Nat → ClassId} {M : am_M} {f i : Nat} (hk : am_kind f = 2) : am_cell ν dA M f i = .inl (dA 1, am_len0 f, .inl (M.1 f i)) := by
  unfold am_cell; rw [hk]; rfl
theorem am_cell_ref {ν : Nat → Nat → Nat} {dA : Nat → ClassId} {M : am_M} {f i : Nat} (hk : am_kind f = 3) : am_cell ν dA M f i = .inl (dA (am_cls f - 4), am_len0 f, .inr (.inr (.inr (.inr fun k => some (ν (am_rfA f) (am_riA M f i k)))))) := by
  unfold am_cell; rw [hk]; rfl
theorem am_okF : ∀ f, f < 59 → am_kind f = 0 → f ≠ 8 → ∀ k, k < am_len0 f → am_fty (am_cls f) k = 2 → am_cnt f ≤ am_cnt (am_rfF (am_cls f) k) := by decide +kernel
theorem am_fv_ok {M : am_M} {f i k : Nat} (hM : am_okM M) (hf : f < 59) (hk0 : am_kind f = 0) (hi : i < am_cnt f) (hk : k < am_len0 f) : am_okV (am_fv M (am_cls f) f i k) := by
  unfold am_fv
  split
  · rename_i ht
    show am_riF M f i k < am_cnt (am_rfF (am_cls f) k)
    unfold am_riF
    by_cases h8 : f = 8
    · subst h8
      have hl : am_len0 8 = 4 := rfl
      rw [hl] at hk
      match k, hk with
      | 0, _ => exact hM.2.2.1
      | 1, _ => exact absurd ht (by decide)
      | 2, _ => exact hM.2.2.2
      | 3, _ => exact (by decide : 0 < am_cnt (am_rfF (am_cls 8) 3))
    · rw [am_bf h8]
      exact Nat.lt_of_lt_of_le hi (am_okF f hf hk0 h8 k hk ht)
  · trivial
  · trivial
theorem am_riA_ok {M : am_M} {f i n : Nat} (hM : am_okM M) (hk : am_kind f = 3) (hi : i < am_cnt f) (hn : n < am_len0 f) : am_riA M f i n < am_cnt (am_rfA f) := by
  rcases am_k3 hk with rfl | rfl | rfl | rfl
  · exact hM.1 n hn
  · have h1 : i < 2 := hi
    have h2 : n < 4 := hn
    show 4 * i + n < 8
    omega
  · exact hM.2.1 n hn
  · have h1 : i < 8 := hi
    have h2 : n < 6 := hn
    show 6 * i + n < 48
    omega
section
variable {p : Program} {l : Launch} {e : Env} {R : Room} {s : State} {m : MethodId} {args : Array Value} {below : List Frame} {meth : Method} {c : Code} {H : Heap} {locs : List Loc} {cells slots : Nat} {Qm : State → Prop}
theorem am_run {ν : Nat → Nat → Nat} {dA : Nat → ClassId} {D : va_G} {A : Nat → Prop} {M : am_M} {Q : am_P} {pcv : Nat} {lsc : Array Slot} {st0 rest : List Value} {X : Array Value} (hr : va_Run p l e R s m args below meth c H locs cells slots 0 0 (F0 m pcv lsc st0) rest (am_Qc ν dA D A Q X) A) (Wd : am_Wd ν dA D A s H locs M)
    (kk : ∀ (r : Option am_V) (M' : am_M) (H' : Heap) (locs' : List Loc), Q r M' → (∀ v, r = some v → am_okV v) → am_Wd ν dA D A s H' locs' M' → W p l e R s m args below meth c H' locs' cells slots Qm (F0 m (pcv + 3) lsc ((r.map (am_rv ν)).toList ++ rest))) : W p l e R s m args below meth c H locs cells slots Qm (F0 m pcv lsc st0) := by
  obtain ⟨hK, hP, hD, hS, hM, hSt⟩ := Wd
  intro T hT X0
  obtain ⟨v, st₀, t, T', L, h0, X', hL, e1, e2, ⟨⟨r, M', hq, hv, hok, hK', hP', hD', hM', hSt'⟩, hz, hk⟩, st⟩ := hr T hT X0
  cases hv
  rw [h0] at hz hk
  have hkT : ∀ q : Nat, q < s.heap.size → ¬ A q → T'.heap[q]? = s.heap[q]? := fun q h1 h2 => by rw [e1, hk q (Nat.lt_of_lt_of_le h1 hS.1) h2]; exact hS.2.1 q h1 h2
  obtain ⟨t2, a1, b1⟩ := kk r M' T'.heap (locs ++ L) hq hok ⟨hK, by rw [e1]; exact hP', hD', ⟨Nat.le_trans hS.1 (by rw [e1]; exact hz), hkT, fun q hq => by
      rcases List.mem_append.mp hq with h | h
      · exact hS.2.2 q h
      · exact hL q h⟩, hM', am_St_back (H' := T'.heap) (by rw [← e2]; exact X'.warmed.alike.symm) hkT hSt (by rw [e1]; exact hSt')⟩ T' rfl X'
  exact ⟨t2, st t2 a1, b1⟩
end
theorem am_W0_blind {ν : Nat → Nat → Nat} {dA : Nat → ClassId} {D : va_G} {A : Nat → Prop} {M : am_M} {vs : List Value} : FrameBlind (va_Pc vs (am_W0 ν dA D A M)) := by
  intro a U g mk q
  obtain ⟨q0, qK, qP, qD, qM, qS⟩ := q
  exact ⟨q0, va_K.moved (u := U) (U := U.calling g mk a) (Vm.Alike.refl U.vm) qK, qP, qD, qM, am_St_moved (u := U) (U := U.calling g mk a) (H := U.heap) (H' := U.heap) (Vm.Alike.refl U.vm) (Nat.le_refl _) (fun _ _ _ => rfl) qS⟩
theorem am_W0_of {ν : Nat → Nat → Nat} {dA : Nat → ClassId} {D : va_G} {A : Nat → Prop} {M : am_M} {s U : State} {H : Heap} {locs : List Loc} (Wd : am_Wd ν dA D A s H locs M) (hU : U.heap = H) (hW : s.WarmedH U.vm) : am_W0 ν dA D A M U := by
  obtain ⟨hK, hP, hD, hS, hM, hSt⟩ := Wd
  exact ⟨va_K.moved hW.alike hK, by rw [hU]; exact hP, hD, hM, by rw [hU]; exact am_St_moved hW.alike hS.1 hS.2.1 hSt⟩
theorem am_ml_lt : ∀ y, y < 138 → am_ml y < 14 := by decide +kernel
set_option maxHeartbeats 4000000 in
theorem am_sound : am_Cl am_Sem := by
  intro d y pc ls st M Q h hy hokl hoks p l e R s m args below meth c H locs cells slots Qm ν dA D A lsc C Rm Wd hl hr
  obtain ⟨hx, hb, hml, hown, hts⟩ := id C
  obtain ⟨hK, hP, hD, hS, hM, hSt⟩ := id Wd
  have go : ∀ {n : Nat} {ls' : List (Option am_V)} {st' : List am_V} {M' : am_M} {H' : Heap} {locs' : List Loc} {lsc' : Array Slot}, Nat.beq (am_pc y (pc + 1)) (am_pc y pc + n) = true → am_Sem d y (pc + 1) ls' st' M' Q → (∀ k v, am_nth ls' k none = some v → am_okV v) → (∀ v ∈ st', am_okV v) → am_Wd ν dA D A s H' locs' M' → am_lv ν (am_ml y) ls' lsc' →
      W p l e R s m args below meth c H' locs' cells slots Qm (F0 m (am_pc y pc + n) lsc' (st'.map (am_rv ν))) := by
    intro n ls' st' M' H' locs' lsc' hn hs h1 h2 h3 h4
    rw [← am_beq hn]
    exact hs hy h1 h2 p l e R s m args below meth c H' locs' cells slots Qm ν dA D A lsc' C Rm h3 h4 hr
  have jump : ∀ {a : Nat} {st' : List am_V}, am_Sem d y a ls st' M Q → (∀ v ∈ st', am_okV v) → W p l e R s m args below meth c H locs cells slots Qm (F0 m (am_pc y a) lsc (st'.map (am_rv ν))) := fun {a st'} hs h2 => hs hy hokl h2 p l e R s m args below meth c H locs cells slots Qm ν dA D A lsc C Rm Wd hl hr
  cases hen : am_at y pc with
  | none => rw [hen] at h; exact h.elim
  | some en =>
    rw [hen] at h
    obtain ⟨p0, ins, a, b, z, tg⟩ := en
    cases ins with
    | aload_n k =>
      obtain ⟨hd, ho⟩ := am_row2 hy hen rfl
      simp only [am_F] at h
      obtain ⟨f, i, hv, hh1⟩ := am_vr_e h
      refine lv_aload_n hx hb hd rfl (hl.2.2.2 _ _ hv) ?_
      exact go (n := 1) ho hh1 hokl (am_okc (hokl _ _ hv) hoks) Wd hl
    | aload k =>
      obtain ⟨hd, ho⟩ := am_row2 hy hen rfl
      simp only [am_F] at h
      obtain ⟨f, i, hv, hh1⟩ := am_vr_e h
      refine lv_aload hx hb hd (hl.2.2.2 _ _ hv) ?_
      exact go (n := 2) ho hh1 hokl (am_okc (hokl _ _ hv) hoks) Wd hl
    | iload_n k =>
      obtain ⟨hd, ho⟩ := am_row2 hy hen rfl
      obtain ⟨x, hv, hh1⟩ := am_vi_e h
      refine lv_iload_n hx hb hd rfl (hl.2.2.2 _ _ hv) ?_
      exact go (n := 1) ho hh1 hokl (am_okc (hokl _ _ hv) hoks) Wd hl
    | iload k =>
      obtain ⟨hd, ho⟩ := am_row2 hy hen rfl
      obtain ⟨x, hv, hh1⟩ := am_vi_e h
      refine lv_iload hx hb hd (hl.2.2.2 _ _ hv) ?_
      exact go (n := 2) ho hh1 hokl (am_okc (hokl _ _ hv) hoks) Wd hl
    | lload_n k =>
      obtain ⟨hd, ho⟩ := am_row2 hy hen rfl
      obtain ⟨x, hv, hh1⟩ := am_vl_e h
      refine lv_lload_n hx hb hd rfl (hl.2.2.2 _ _ hv) ?_
      exact go (n := 1) ho hh1 hokl (am_okc (hokl _ _ hv) hoks) Wd hl
    | lload k =>
      obtain ⟨hd, ho⟩ := am_row2 hy hen rfl
      obtain ⟨x, hv, hh1⟩ := am_vl_e h
      refine lv_lload hx hb hd (hl.2.2.2 _ _ hv) ?_
      exact go (n := 2) ho hh1 hokl (am_okc (hokl _ _ hv) hoks) Wd hl
    | istore_n k =>
      obtain ⟨hd, ho⟩ := am_row2 hy hen rfl
      simp only [am_F] at h
      obtain ⟨x, r, rfl, hh1⟩ := am_i_e h
      simp only [am_okI, Bool.and_eq_true] at ho
      obtain ⟨hk, hn⟩ := ho
      have hk := am_blt hk
      refine lv_istore_n (lv := am_prs ν 0 ls) hx hb hd rfl (am_lv_has hl) hk rfl (fun ls' hl' => ?_)
      exact go (n := 1) hn hh1 (am_okset (by rw [hl.1]; exact hk) hokl (hoks _ List.mem_cons_self)) (am_okt hoks) Wd (am_lv_set (v := (.inl x)) hl hk hl')
    | istore k =>
      obtain ⟨hd, ho⟩ := am_row2 hy hen rfl
      simp only [am_F] at h
      obtain ⟨x, r, rfl, hh1⟩ := am_i_e h
      simp only [am_okI, Bool.and_eq_true] at ho
      obtain ⟨hk, hn⟩ := ho
      have hk := am_blt hk
      refine lv_istore (lv := am_prs ν 0 ls) hx hb hd (am_lv_has hl) hk rfl (fun ls' hl' => ?_)
      exact go (n := 2) hn hh1 (am_okset (by rw [hl.1]; exact hk) hokl (hoks _ List.mem_cons_self)) (am_okt hoks) Wd (am_lv_set (v := (.inl x)) hl hk hl')
    | astore_n k =>
      obtain ⟨hd, ho⟩ := am_row2 hy hen rfl
      simp only [am_F] at h
      obtain ⟨f, i, r, rfl, hh1⟩ := am_r_e h
      simp only [am_okI, Bool.and_eq_true] at ho
      obtain ⟨hk, hn⟩ := ho
      have hk := am_blt hk
      refine lv_astore_n (lv := am_prs ν 0 ls) hx hb hd rfl (am_lv_has hl) hk rfl (fun ls' hl' => ?_)
      exact go (n := 1) hn hh1 (am_okset (by rw [hl.1]; exact hk) hokl (hoks _ List.mem_cons_self)) (am_okt hoks) Wd (am_lv_set (v := (.inr (.inl (f, i)))) hl hk hl')
    | astore k =>
      obtain ⟨hd, ho⟩ := am_row2 hy hen rfl
      simp only [am_F] at h
      obtain ⟨f, i, r, rfl, hh1⟩ := am_r_e h
      simp only [am_okI, Bool.and_eq_true] at ho
      obtain ⟨hk, hn⟩ := ho
      have hk := am_blt hk
      refine lv_astore (lv := am_prs ν 0 ls) hx hb hd (am_lv_has hl) hk rfl (fun ls' hl' => ?_)
      exact go (n := 2) hn hh1 (am_okset (by rw [hl.1]; exact hk) hokl (hoks _ List.mem_cons_self)) (am_okt hoks) Wd (am_lv_set (v := (.inr (.inl (f, i)))) hl hk hl')
    | lstore k =>
      obtain ⟨hd, ho⟩ := am_row2 hy hen rfl
      simp only [am_F] at h
      obtain ⟨x, r, rfl, hh1⟩ := am_l_e h
      simp only [am_okI, Bool.and_eq_true] at ho
      obtain ⟨hk, hn⟩ := ho
      have hk := am_blt hk
      refine lv_lstore (lv := am_prs ν 0 ls) hx hb hd (am_lv_has hl) hk rfl (fun ls' hl' => ?_)
      exact go (n := 2) hn hh1 (am_okset2 (by rw [hl.1]; exact hk) hokl) (am_okt hoks) Wd (am_lv_set2 hl hk hl')
    | iconst k =>
      obtain ⟨hd, ho⟩ := am_row2 hy hen rfl
      simp only [am_okI, Bool.and_eq_true, decide_eq_true_eq] at ho
      refine lv_iconst hx hb hd ho.1 ?_
      exact go (n := 1) ho.2 h hokl (am_okc trivial hoks) Wd hl
    | bipush k =>
      obtain ⟨hd, ho⟩ := am_row2 hy hen rfl
      simp only [am_okI, Bool.and_eq_true, decide_eq_true_eq] at ho
      refine lv_bipush hx hb hd ho.1 ?_
      exact go (n := 2) ho.2 h hokl (am_okc trivial hoks) Wd hl
    | sipush k =>
      obtain ⟨hd, ho⟩ := am_row2 hy hen rfl
      simp only [am_okI, Bool.and_eq_true, decide_eq_true_eq] at ho
      refine lv_sipush hx hb hd ho.1 ?_
      exact go (n := 3) ho.2 h hokl (am_okc trivial hoks) Wd hl
    | ldc k =>
      obtain ⟨hd, ho⟩ := am_row2 hy hen rfl
      simp only [am_okI, Bool.and_eq_true] at ho
      obtain ⟨q, hq⟩ := am_hasC_e ho.1
      refine lv_ldc hx hb hown (hts _ (am_tb_in (am_kk_ok _ hq) rfl)) hd ?_
      exact go (n := 2) ho.2 h hokl (am_okc trivial hoks) Wd hl
    | iadd =>
      obtain ⟨hd, ho⟩ := am_row2 hy hen rfl
      obtain ⟨u, v, r, rfl, hh1⟩ := am_ii_e h
      refine lv_iadd hx hb hd ?_
      exact go (n := 1) ho hh1 hokl (am_okc trivial (am_okt (am_okt hoks))) Wd hl
    | isub =>
      obtain ⟨hd, ho⟩ := am_row2 hy hen rfl
      obtain ⟨u, v, r, rfl, hh1⟩ := am_ii_e h
      refine lv_isub hx hb hd ?_
      exact go (n := 1) ho hh1 hokl (am_okc trivial (am_okt (am_okt hoks))) Wd hl
    | imul =>
      obtain ⟨hd, ho⟩ := am_row2 hy hen rfl
      obtain ⟨u, v, r, rfl, hh1⟩ := am_ii_e h
      refine lv_imul hx hb hd ?_
      exact go (n := 1) ho hh1 hokl (am_okc trivial (am_okt (am_okt hoks))) Wd hl
    | iand =>
      obtain ⟨hd, ho⟩ := am_row2 hy hen rfl
      obtain ⟨u, v, r, rfl, hh1⟩ := am_ii_e h
      refine lv_iand hx hb hd ?_
      exact go (n := 1) ho hh1 hokl (am_okc trivial (am_okt (am_okt hoks))) Wd hl
    | ior =>
      obtain ⟨hd, ho⟩ := am_row2 hy hen rfl
      obtain ⟨u, v, r, rfl, hh1⟩ := am_ii_e h
      refine lv_ior hx hb hd ?_
      exact go (n := 1) ho hh1 hokl (am_okc trivial (am_okt (am_okt hoks))) Wd hl
    | ixor =>
      obtain ⟨hd, ho⟩ := am_row2 hy hen rfl
      obtain ⟨u, v, r, rfl, hh1⟩ := am_ii_e h
      refine lv_ixor hx hb hd ?_
      exact go (n := 1) ho hh1 hokl (am_okc trivial (am_okt (am_okt hoks))) Wd hl
    | ishl =>
      obtain ⟨hd, ho⟩ := am_row2 hy hen rfl
      obtain ⟨u, v, r, rfl, hh1⟩ := am_ii_e h
      refine lv_ishl hx hb hd ?_
      exact go (n := 1) ho hh1 hokl (am_okc trivial (am_okt (am_okt hoks))) Wd hl
    | ishr =>
      obtain ⟨hd, ho⟩ := am_row2 hy hen rfl
      obtain ⟨u, v, r, rfl, hh1⟩ := am_ii_e h
      refine lv_ishr hx hb hd ?_
      exact go (n := 1) ho hh1 hokl (am_okc trivial (am_okt (am_okt hoks))) Wd hl
    | idiv =>
      obtain ⟨hd, ho⟩ := am_row2 hy hen rfl
      obtain ⟨u, v, r, rfl, h0, hh1⟩ := am_ii_e h
      refine lv_idiv hx hb hd h0 ?_
      exact go (n := 1) ho hh1 hokl (am_okc trivial (am_okt (am_okt hoks))) Wd hl
    | irem =>
      obtain ⟨hd, ho⟩ := am_row2 hy hen rfl
      obtain ⟨u, v, r, rfl, h0, hh1⟩ := am_ii_e h
      refine lv_irem hx hb hd h0 ?_
      exact go (n := 1) ho hh1 hokl (am_okc trivial (am_okt (am_okt hoks))) Wd hl
    | ladd =>
      obtain ⟨hd, ho⟩ := am_row2 hy hen rfl
      obtain ⟨u, v, r, rfl, hh1⟩ := am_ll_e h
      refine lv_ladd hx hb hd ?_
      exact go (n := 1) ho hh1 hokl (am_okc trivial (am_okt (am_okt hoks))) Wd hl
    | lsub =>
      obtain ⟨hd, ho⟩ := am_row2 hy hen rfl
      obtain ⟨u, v, r, rfl, hh1⟩ := am_ll_e h
      refine lv_lsub hx hb hd ?_
      exact go (n := 1) ho hh1 hokl (am_okc trivial (am_okt (am_okt hoks))) Wd hl
    | lmul =>
      obtain ⟨hd, ho⟩ := am_row2 hy hen rfl
      obtain ⟨u, v, r, rfl, hh1⟩ := am_ll_e h
      refine lv_lmul hx hb hd ?_
      exact go (n := 1) ho hh1 hokl (am_okc trivial (am_okt (am_okt hoks))) Wd hl
    | lcmp =>
      obtain ⟨hd, ho⟩ := am_row2 hy hen rfl
      obtain ⟨u, v, r, rfl, hh1⟩ := am_ll_e h
      refine W.lcmp hx hb hd ?_
      exact go (n := 1) ho hh1 hokl (am_okc trivial (am_okt (am_okt hoks))) Wd hl
    | i2l =>
      obtain ⟨hd, ho⟩ := am_row2 hy hen rfl
      obtain ⟨u, r, rfl, hh1⟩ := am_i_e h
      refine lv_i2l hx hb hd rfl ?_
      exact go (n := 1) ho hh1 hokl (am_okc trivial (am_okt hoks)) Wd hl
    | l2i =>
      obtain ⟨hd, ho⟩ := am_row2 hy hen rfl
      obtain ⟨u, r, rfl, hh1⟩ := am_l_e h
      refine lv_l2i hx hb hd rfl ?_
      exact go (n := 1) ho hh1 hokl (am_okc trivial (am_okt hoks)) Wd hl
    | iinc k n =>
      obtain ⟨hd, ho⟩ := am_row2 hy hen rfl
      simp only [am_F] at h
      obtain ⟨x, hv, hh1⟩ := am_vi_e h
      simp only [am_okI, Bool.and_eq_true, decide_eq_true_eq] at ho
      have hk : k < am_ml y := by rw [← hl.1]; exact am_nth_lt hv
      have hm := am_prs_of (ν := ν) (j := 0) hv
      rw [Nat.zero_add] at hm
      obtain ⟨q, hq⟩ := List.getElem?_of_mem hm
      refine lv_iinc (lv := am_prs ν 0 ls) (v := x + z) hx hb hd (am_lv_has hl) hq (by rw [ho.1]) hk rfl (fun ls' hl' => ?_)
      exact go (n := 3) ho.2 hh1 (am_okset (by rw [hl.1]; exact hk) hokl trivial) hoks Wd (am_lv_set (v := .inl (x + z)) hl hk hl')
    | dup =>
      obtain ⟨hd, ho⟩ := am_row2 hy hen rfl
      simp only [am_F] at h
      obtain ⟨f, i, r, rfl, hh1⟩ := am_r_e h
      refine lv_dup hx hb hd rfl ?_
      exact go (n := 1) ho hh1 hokl (am_okc (hoks _ List.mem_cons_self) hoks) Wd hl
    | dup2 =>
      obtain ⟨hd, ho⟩ := am_row2 hy hen rfl
      simp only [am_F] at h
      obtain ⟨j, r1, rfl, hh1⟩ := am_i_e h
      obtain ⟨f, i, r, rfl, hh2⟩ := am_r_e hh1
      refine lv_dup2_11 hx hb hd rfl rfl ?_
      exact go (n := 1) ho hh2 hokl (am_okc trivial (am_okc (am_okt hoks _ List.mem_cons_self) hoks)) Wd hl
    | goto k =>
      obtain ⟨hd, ho⟩ := am_row2 hy hen rfl
      simp only [am_okI, decide_eq_true_eq] at ho
      exact lv_goto hx hb hd ho (jump h hoks)
    | ifCond cc k =>
      obtain ⟨hd, ho⟩ := am_row2 hy hen rfl
      obtain ⟨u, r, rfl, h1, h2⟩ := am_i_e h
      simp only [am_okI, Bool.and_eq_true, decide_eq_true_eq] at ho
      cases cc with
      | eq => exact lv_if_eq hx hb hd ho.1 (fun q => jump (h1 q) (am_okt hoks)) (fun q => go (n := 3) ho.2 (h2 q) hokl (am_okt hoks) Wd hl)
      | ne => exact lv_if_ne hx hb hd ho.1 (fun q => jump (h1 q) (am_okt hoks)) (fun q => go (n := 3) ho.2 (h2 (fun z => z q)) hokl (am_okt hoks) Wd hl)
      | lt => exact lv_if_lt hx hb hd ho.1 (fun q => jump (h1 q) (am_okt hoks)) (fun q => go (n := 3) ho.2 (h2 q) hokl (am_okt hoks) Wd hl)
      | ge => exact lv_if_ge hx hb hd ho.1 (fun q => jump (h1 q) (am_okt hoks)) (fun q => go (n := 3) ho.2 (h2 q) hokl (am_okt hoks) Wd hl)
      | gt => exact lv_if_gt hx hb hd ho.1 (fun q => jump (h1 q) (am_okt hoks)) (fun q => go (n := 3) ho.2 (h2 q) hokl (am_okt hoks) Wd hl)
      | le => exact lv_if_le hx hb hd ho.1 (fun q => jump (h1 q) (am_okt hoks)) (fun q => go (n := 3) ho.2 (h2 q) hokl (am_okt hoks) Wd hl)
    | if_icmp cc k =>
      obtain ⟨hd, ho⟩ := am_row2 hy hen rfl
      obtain ⟨u, v, r, rfl, h1, h2⟩ := am_ii_e h
      simp only [am_okI, Bool.and_eq_true, decide_eq_true_eq] at ho
      cases cc with
      | eq => exact lv_icmp_eq hx hb hd ho.1 (fun q => jump (h1 q) (am_okt (am_okt hoks))) (fun q => go (n := 3) ho.2 (h2 q) hokl (am_okt (am_okt hoks)) Wd hl)
      | ne => exact lv_icmp_ne hx hb hd ho.1 (fun q => jump (h1 q) (am_okt (am_okt hoks))) (fun q => go (n := 3) ho.2 (h2 (fun z => z q)) hokl (am_okt (am_okt hoks)) Wd hl)
      | lt => exact lv_icmp_lt hx hb hd ho.1 (fun q => jump (h1 q) (am_okt (am_okt hoks))) (fun q => go (n := 3) ho.2 (h2 q) hokl (am_okt (am_okt hoks)) Wd hl)
      | ge => exact lv_icmp_ge hx hb hd ho.1 (fun q => jump (h1 q) (am_okt (am_okt hoks))) (fun q => go (n := 3) ho.2 (h2 q) hokl (am_okt (am_okt hoks)) Wd hl)
      | gt => exact lv_icmp_gt hx hb hd ho.1 (fun q => jump (h1 q) (am_okt (am_okt hoks))) (fun q => go (n := 3) ho.2 (h2 q) hokl (am_okt (am_okt hoks)) Wd hl)
      | le => exact lv_icmp_le hx hb hd ho.1 (fun q => jump (h1 q) (am_okt (am_okt hoks))) (fun q => go (n := 3) ho.2 (h2 q) hokl (am_okt (am_okt hoks)) Wd hl)
    | tableswitch df lo hi offs =>
      obtain ⟨n, hd, ho⟩ := am_row3 hy hen
      obtain ⟨u, r, rfl, h1, h2⟩ := am_i_e h
      simp only [am_okI, Bool.and_eq_true, decide_eq_true_eq] at ho
      obtain ⟨⟨ho1, ho2⟩, ho3⟩ := ho
      by_cases hu : u.toInt < lo ∨ hi < u.toInt
      · exact lv_tableOut hx hb hd hu ho1 (jump (h1 hu) (am_okt hoks))
      · have key : ∀ (ts : List Nat) (os : List Int) (lo' : Int), am_tgs y (am_pc y pc) ts os = true → am_sw u.toInt lo' ts (fun t => am_Sem d y t ls r M Q) → lo' ≤ u.toInt → u.toInt < lo' + ts.length → ∃ t o, os[(u.toInt - lo').toNat]? = some o ∧ (am_pc y pc : Int) + o = (am_pc y t : Int) ∧ am_Sem d y t ls r M Q := by
          intro ts
          induction ts with
          | nil => intro os lo' _ _ g1 g2; simp at g2; omega
          | cons t ts ih =>
            intro os lo' g g0 g1 g2
            cases os with
            | nil => simp [am_tgs] at g
            | cons o os =>
              simp only [am_tgs, Bool.and_eq_true, decide_eq_true_eq] at g
              obtain ⟨s1, s2⟩ := g0
              by_cases e : u.toInt = lo'
              · exact ⟨t, o, by rw [e]; simp, g.1, s1 e⟩
              · obtain ⟨t', o', q1, q2, q3⟩ := ih os (lo' + 1) g.2 s2 (by omega) (by simp at g2; omega)
                refine ⟨t', o', ?_, q2, q3⟩
                rw [show (u.toInt - lo').toNat = (u.toInt - (lo' + 1)).toNat + 1 by omega, List.getElem?_cons_succ]
                exact q1
        obtain ⟨t, o, q1, q2, q3⟩ := key tg offs.toList lo ho2 h2 (by omega) (by omega)
        exact lv_tableIn hx hb hd (fun q => hu (Or.inl q)) (fun q => hu (Or.inr q)) (by rw [← Array.getElem?_toList]; exact q1) q2 (jump q3 (am_okt hoks))
    | getfield k =>
      obtain ⟨hd, ho⟩ := am_row2 hy hen rfl
      simp only [am_okI, Bool.and_eq_true] at ho
      obtain ⟨hol, hn⟩ := ho
      obtain ⟨qp, hqp⟩ := am_has5_e hol
      obtain ⟨ha11, hbN, hpos⟩ := am_fl_ok _ hqp
      dsimp only at ha11 hbN hpos
      have hlink : (Cond.fieldLink (am_on (am_mc y)) k (am_on a) (am_Tc a b).2.1 (am_Tc a b).2.2.1).before args s = true := hts _ (am_tb_in hpos rfl)
      have hsame : ∀ x, s.fieldFound? (am_Tc a b).1 (am_Tc a b).2.1 (am_Tc a b).2.2.1 = some x → s.fieldFound? (am_on a) (am_Tc a b).2.1 (am_Tc a b).2.2.1 = some x := by
        intro x q; rw [am_decl_ok a ha11 b hbN] at q; exact q
      simp only [am_F] at h
      obtain ⟨f, i, r, rfl, hh1⟩ := am_r_e h
      obtain ⟨hc, hh2⟩ := am_b_e hh1
      simp only [Bool.and_eq_true] at hc
      have hk0 := am_beq hc.1
      have hca := am_beq hc.2
      subst hca
      have hi : i < am_cnt f := hoks _ List.mem_cons_self
      obtain ⟨hf, -, hlen⟩ := am_k0 hk0
      obtain ⟨q0, hq0⟩ := am_in hf hi
      have he := am_ws_at (ν := ν) (dA := dA) (M := M) hq0
      rw [am_cell_obj hk0] at he
      have hbl : b < am_len0 f := by rw [hlen]; exact hbN
      refine va_get hx hb hts (am_lay ha11) hown hK hP q0 he (am_cl_full _ ha11) b hbN hlink hsame (v := am_rv ν (am_fv M (am_cls f) f i b)) (by rw [List.getElem?_map, List.getElem?_range hbl]; rfl) hd ?_
      exact go (n := 3) hn hh2 hokl (am_okc (am_fv_ok hM hf hk0 hi hbl) (am_okt hoks)) Wd hl
    | putfield k =>
      obtain ⟨hd, ho⟩ := am_row2 hy hen rfl
      simp only [am_okI, Bool.and_eq_true] at ho
      obtain ⟨hol, hn⟩ := ho
      obtain ⟨qp, hqp⟩ := am_has5_e hol
      obtain ⟨ha11, hbN, hpos⟩ := am_fl_ok _ hqp
      dsimp only at ha11 hbN hpos
      have hlink : (Cond.fieldLink (am_on (am_mc y)) k (am_on a) (am_Tc a b).2.1 (am_Tc a b).2.2.1).before args s = true := hts _ (am_tb_in hpos rfl)
      have hsame : ∀ x, s.fieldFound? (am_Tc a b).1 (am_Tc a b).2.1 (am_Tc a b).2.2.1 = some x → s.fieldFound? (am_on a) (am_Tc a b).2.1 (am_Tc a b).2.2.1 = some x := by
        intro x q; rw [am_decl_ok a ha11 b hbN] at q; exact q
      simp only [am_F] at h
      split at h
      · rename_i hty
        obtain ⟨x, r1, rfl, hh1⟩ := am_i_e h
        obtain ⟨f, i, r, rfl, hh2⟩ := am_r_e hh1
        obtain ⟨hc, hh3⟩ := am_b_e hh2
        simp only [Bool.and_eq_true] at hc
        have hk0 := am_beq hc.1
        have hca := am_beq hc.2
        subst hca
        have hi : i < am_cnt f := am_okt hoks _ List.mem_cons_self
        obtain ⟨hf, -, hlen⟩ := am_k0 hk0
        obtain ⟨q0, hq0⟩ := am_in hf hi
        have he := am_ws_at (ν := ν) (dA := dA) (M := M) hq0
        rw [am_cell_obj hk0] at he
        have hbl : b < am_len0 f := by rw [hlen]; exact hbN
        obtain ⟨hY, hfin⟩ := am_fty0 _ ha11 b hbN hty
        have hset := am_ws_set (ν := ν) (dA := dA) (M := M) (M' := am_si M f i b x) hq0 (am_si_obj hk0 (Or.inl hty)) am_si_other
        refine va_put hx hb hts (am_lay ha11) (am_Yc (am_cls f)) (am_ty_ok _ ha11) (am_nm_ok _ ha11) hown hK hP hD hS q0 he (am_cl_full _ ha11) b hbN hlink hsame hfin (ty := am_Yc (am_cls f) b) (v := .int x) (am_ty_ok _ ha11 b hbN) (by rw [hY]; rfl) (by rw [hY]; rfl) (by simpa using hbl) hd (fun H1 locs1 hP1 hD1 hS1 => ?_)
        rw [hset] at hP1 hD1
        exact go (n := 3) hn hh3 hokl (am_okt (am_okt hoks)) ⟨hK, hP1, hD1, hS1, hM, am_St_si hf hSt⟩ hl
      · rename_i hty
        obtain ⟨x, r1, rfl, hh4⟩ := am_i_e h
        obtain ⟨f, i, r, rfl, hh5⟩ := am_r_e hh4
        obtain ⟨hc, hx01, hh6⟩ := am_b_e hh5
        simp only [Bool.and_eq_true] at hc
        have hk0 := am_beq hc.1
        have hca := am_beq hc.2
        subst hca
        have hi : i < am_cnt f := am_okt hoks _ List.mem_cons_self
        obtain ⟨hf, -, hlen⟩ := am_k0 hk0
        obtain ⟨q0, hq0⟩ := am_in hf hi
        have he := am_ws_at (ν := ν) (dA := dA) (M := M) hq0
        rw [am_cell_obj hk0] at he
        have hbl : b < am_len0 f := by rw [hlen]; exact hbN
        obtain ⟨hY, hfin⟩ := am_fty1 _ ha11 b hbN hty
        have hset := am_ws_set (ν := ν) (dA := dA) (M := M) (M' := am_si M f i b x) hq0 (am_si_obj hk0 (Or.inr hty)) am_si_other
        refine va_put hx hb hts (am_lay ha11) (am_Yc (am_cls f)) (am_ty_ok _ ha11) (am_nm_ok _ ha11) hown hK hP hD hS q0 he (am_cl_full _ ha11) b hbN hlink hsame hfin (ty := am_Yc (am_cls f) b) (v := .int x) (am_ty_ok _ ha11 b hbN) (by rw [hY]; rcases hx01 with rfl | rfl <;> rfl) (by rw [hY]; rcases hx01 with rfl | rfl <;> rfl) (by simpa using hbl) hd (fun H1 locs1 hP1 hD1 hS1 => ?_)
        rw [hset] at hP1 hD1
        exact go (n := 3) hn hh6 hokl (am_okt (am_okt hoks)) ⟨hK, hP1, hD1, hS1, hM, am_St_si hf hSt⟩ hl
      · rename_i hty
        obtain ⟨g, j, r1, rfl, hh7⟩ := am_r_e h
        obtain ⟨f, i, r, rfl, hh8⟩ := am_r_e hh7
        obtain ⟨hc, hh9⟩ := am_b_e hh8
        simp only [Bool.and_eq_true, Bool.or_eq_true] at hc
        obtain ⟨⟨⟨h8, h2⟩, h9⟩, hb02⟩ := hc
        have h8 := am_beq h8
        have h2 := am_beq h2
        have h9 := am_beq h9
        subst h8 h2 h9
        have hb02 : b = 0 ∨ b = 2 := hb02.imp am_beq am_beq
        have hi : i < 1 := am_okt hoks _ List.mem_cons_self
        have hi0 : i = 0 := by omega
        subst hi0
        have hj : j < 2 := hoks _ List.mem_cons_self
        obtain ⟨q0, hq0⟩ := am_in (f := 8) (i := 0) (by decide) (by decide)
        have he := am_ws_at (ν := ν) (dA := dA) (M := M) hq0
        rw [am_cell_obj (f := 8) rfl] at he
        have hset := am_ws_set (ν := ν) (dA := dA) (M := M) (M' := am_sv M 8 b j) hq0 (am_sv_obj hb02) am_sv_keep
        have hty' : ∃ ty, am_Yc 2 b = ty ∧ narrow ty (.ref (ν 9 j)) = .ref (ν 9 j) ∧ fits ty (.ref (ν 9 j)) = true ∧ (am_Tc 2 b).2.2.2 = false := by rcases hb02 with rfl | rfl <;> exact ⟨_, rfl, rfl, rfl, rfl⟩
        obtain ⟨ty, hY, hn1, hn2, hfin⟩ := hty'
        refine va_put hx hb hts (am_lay ha11) (am_Yc 2) (am_ty_ok _ ha11) (am_nm_ok _ ha11) hown hK hP hD hS q0 he (am_cl_full _ ha11) b hbN hlink hsame hfin (ty := ty) (v := .ref (ν 9 j)) (by rw [← hY]; exact am_ty_ok _ ha11 b hbN) hn1 hn2 (by rw [List.length_map, List.length_range]; exact hbN) hd (fun H1 locs1 hP1 hD1 hS1 => ?_)
        rw [show am_cls 8 = 2 from rfl, show am_len0 8 = 4 from rfl] at hP1 hD1
        rw [hset] at hP1 hD1
        refine go (n := 3) hn hh9 hokl (am_okt (am_okt hoks)) ⟨hK, hP1, hD1, hS1, ⟨fun k hk => ?_, fun k hk => ?_, ?_, ?_⟩, hSt⟩ hl
        · rw [am_sv_at, if_neg (by omega)]; exact hM.1 k hk
        · rw [am_sv_at, if_neg (by omega)]; exact hM.2.1 k hk
        · rw [am_sv_at]; split
          · exact hj
          · exact hM.2.2.1
        · rw [am_sv_at]; split
          · exact hj
          · exact hM.2.2.2
      · rename_i hty
        obtain ⟨x, r1, rfl, hh10⟩ := am_l_e h
        obtain ⟨f, i, r, rfl, hh11⟩ := am_r_e hh10
        obtain ⟨hc, hh12⟩ := am_b_e hh11
        simp only [Bool.and_eq_true] at hc
        have h10 := am_beq hc.1
        have h3 := am_beq hc.2
        subst h10 h3
        have hi : i < 1 := am_okt hoks _ List.mem_cons_self
        have hi0 : i = 0 := by omega
        subst hi0
        have hb4 : b = 4 := by
          have key : ∀ b, b < am_Nc 3 → am_fty 3 b = 3 → b = 4 := by decide +kernel
          exact key b hbN hty
        subst hb4
        obtain ⟨q0, hq0⟩ := am_in (f := 10) (i := 0) (by decide) (by decide)
        have he := am_ws_at (ν := ν) (dA := dA) (M := M) hq0
        rw [am_cell_obj (f := 10) rfl] at he
        have hset := am_ws_set (ν := ν) (dA := dA) (M := M) (M' := am_sl M x) hq0 am_sl_obj am_sl_other
        refine va_put hx hb hts (am_lay ha11) (am_Yc 3) (am_ty_ok _ ha11) (am_nm_ok _ ha11) hown hK hP hD hS q0 he (am_cl_full _ ha11) 4 hbN hlink hsame rfl (ty := .long) (v := .long x) (am_ty_ok _ ha11 4 hbN) rfl rfl (by rw [List.length_map, List.length_range]; exact hbN) hd (fun H1 locs1 hP1 hD1 hS1 => ?_)
        rw [show am_cls 10 = 3 from rfl, show am_len0 10 = 12 from rfl] at hP1 hD1
        rw [hset] at hP1 hD1
        exact go (n := 3) hn hh12 hokl (am_okt (am_okt hoks)) ⟨hK, hP1, hD1, hS1, hM, hSt⟩ hl
      · exact h.elim
    | iaload =>
      obtain ⟨hd, ho⟩ := am_row2 hy hen rfl
      simp only [am_F] at h
      obtain ⟨j, r1, rfl, hh1⟩ := am_i_e h
      obtain ⟨f, i, r, rfl, hh2⟩ := am_r_e hh1
      obtain ⟨hc, n, hnl, rfl, hh3⟩ := am_b_e hh2
      have hcl : (nI n).toNatClampNeg = n := nI_clamp (Nat.lt_trans hnl (am_len_lt M f))
      have hin : vp_in (nI n) (am_len M f) := vp_in_nI hnl (am_len_lt M f)
      have hk1 := am_beq hc
      have hi : i < am_cnt f := am_okt hoks _ List.mem_cons_self
      rcases am_k1 hk1 with hf | rfl | rfl | rfl
      · obtain ⟨q0, hq0⟩ := am_in hf hi
        have he := am_ws_at (ν := ν) (dA := dA) (M := M) hq0
        rw [am_cell_int hk1] at he
        rw [am_len_eq (by omega)] at hin
        refine va_iald hx hb hK hP q0 0 he rfl hin hd ?_
        rw [hcl]
        have hv : am_iv M f i n = M.1 f i n := by unfold am_iv; rw [am_bf (show f ≠ 59 by omega), am_bf (show f ≠ 60 by omega)]; rfl
        rw [hv] at hh3
        exact go (n := 1) ho hh3 hokl (am_okc trivial (am_okt (am_okt hoks))) Wd hl
      · have hi0 : i = 0 := by have : i < 1 := hi; omega
        subst hi0
        obtain ⟨-, z2, z3, z4⟩ := hSt.1 59 (Or.inl rfl)
        refine va_sld hx hb z2 z3 z4 hS hin hd ?_
        rw [hcl]
        exact go (n := 1) ho hh3 hokl (am_okc trivial (am_okt (am_okt hoks))) Wd hl
      · have hi0 : i = 0 := by have : i < 1 := hi; omega
        subst hi0
        obtain ⟨-, z2, z3, z4⟩ := hSt.1 60 (Or.inr rfl)
        refine va_sld hx hb z2 z3 z4 hS hin hd ?_
        rw [hcl]
        exact go (n := 1) ho hh3 hokl (am_okc trivial (am_okt (am_okt hoks))) Wd hl
      · have hi0 : i = 0 := by have : i < 1 := hi; omega
        subst hi0
        obtain ⟨z2, z3, z4⟩ := hSt.2
        refine va_sld hx hb z2 z3 z4 hS hin hd ?_
        rw [hcl]
        exact go (n := 1) ho hh3 hokl (am_okc trivial (am_okt (am_okt hoks))) Wd hl
    | baload =>
      obtain ⟨hd, ho⟩ := am_row2 hy hen rfl
      simp only [am_F] at h
      obtain ⟨j, r1, rfl, hh1⟩ := am_i_e h
      obtain ⟨f, i, r, rfl, hh2⟩ := am_r_e hh1
      obtain ⟨hc, n, hnl, rfl, hh3⟩ := am_b_e hh2
      have hcl : (nI n).toNatClampNeg = n := nI_clamp (Nat.lt_trans hnl (am_len_lt M f))
      have hin : vp_in (nI n) (am_len M f) := vp_in_nI hnl (am_len_lt M f)
      have hk1 := am_beq hc
      have hi : i < am_cnt f := am_okt hoks _ List.mem_cons_self
      have hf := am_k2 hk1
      obtain ⟨q0, hq0⟩ := am_in hf hi
      have he := am_ws_at (ν := ν) (dA := dA) (M := M) hq0
      rw [am_cell_bool hk1] at he
      rw [am_len_eq (by omega)] at hin
      refine va_zald hx hb hK hP q0 1 he rfl hin hd ?_
      rw [hcl]
      exact go (n := 1) ho hh3 hokl (am_okc trivial (am_okt (am_okt hoks))) Wd hl
    | aaload =>
      obtain ⟨hd, ho⟩ := am_row2 hy hen rfl
      simp only [am_F] at h
      obtain ⟨j, r1, rfl, hh1⟩ := am_i_e h
      obtain ⟨f, i, r, rfl, hh2⟩ := am_r_e hh1
      obtain ⟨hc, n, hnl, rfl, hh3⟩ := am_b_e hh2
      have hcl : (nI n).toNatClampNeg = n := nI_clamp (Nat.lt_trans hnl (am_len_lt M f))
      have hin : vp_in (nI n) (am_len M f) := vp_in_nI hnl (am_len_lt M f)
      have hk1 := am_beq hc
      have hi : i < am_cnt f := am_okt hoks _ List.mem_cons_self
      have hf : f < 59 := by rcases am_k3 hk1 with z | z | z | z <;> omega
      obtain ⟨q0, hq0⟩ := am_in hf hi
      have he := am_ws_at (ν := ν) (dA := dA) (M := M) hq0
      rw [am_cell_ref hk1] at he
      rw [am_len_eq (by omega)] at hin hnl
      have hty : ∃ (t0 : Nat) (C : String), (am_aT dA)[t0]? = some (dA (am_cls f - 4), FieldType.object C) := by
        rcases am_k3 hk1 with rfl | rfl | rfl | rfl
        · exact ⟨2, _, rfl⟩
        · exact ⟨4, _, rfl⟩
        · exact ⟨3, _, rfl⟩
        · exact ⟨5, _, rfl⟩
      obtain ⟨t0, Cn, ht0⟩ := hty
      refine va_aldq hx hb hK hP q0 t0 he ht0 hin hd ?_
      rw [hcl]
      exact go (n := 1) ho hh3 hokl (am_okc (am_riA_ok hM hk1 hi hnl) (am_okt (am_okt hoks))) Wd hl
    | iastore =>
      obtain ⟨hd, ho⟩ := am_row2 hy hen rfl
      simp only [am_F] at h
      obtain ⟨x, r0, rfl, hh1⟩ := am_i_e h
      obtain ⟨j, r1, rfl, hh2⟩ := am_i_e hh1
      obtain ⟨f, i, r, rfl, hh3⟩ := am_r_e hh2
      obtain ⟨hc, n, hnl, rfl, hh4⟩ := am_b_e hh3
      have hcl : (nI n).toNatClampNeg = n := nI_clamp (Nat.lt_trans hnl (am_len_lt M f))
      have hin : vp_in (nI n) (am_len M f) := vp_in_nI hnl (am_len_lt M f)
      simp only [Bool.and_eq_true] at hc
      have hk1 := am_beq hc.1
      have hf := am_blt hc.2
      have hi : i < am_cnt f := am_okt (am_okt hoks) _ List.mem_cons_self
      obtain ⟨q0, hq0⟩ := am_in hf hi
      have he := am_ws_at (ν := ν) (dA := dA) (M := M) hq0
      rw [am_cell_int hk1] at he
      rw [am_len_eq (by omega)] at hin
      have hset := am_ws_set (ν := ν) (dA := dA) (M := M) (M' := am_si M f i n x) hq0 (by rw [am_cell_int hk1, am_si_upd]) am_si_other
      refine va_iast hx hb hK hP hD hS q0 0 he rfl hin hd (fun H1 locs1 hP1 hD1 hS1 => ?_)
      rw [hcl, hset] at hP1 hD1
      exact go (n := 1) ho hh4 hokl (am_okt (am_okt (am_okt hoks))) ⟨hK, hP1, hD1, hS1, hM, am_St_si hf hSt⟩ hl
    | bastore =>
      obtain ⟨hd, ho⟩ := am_row2 hy hen rfl
      simp only [am_F] at h
      obtain ⟨x, r0, rfl, hh1⟩ := am_i_e h
      obtain ⟨j, r1, rfl, hh2⟩ := am_i_e hh1
      obtain ⟨f, i, r, rfl, hh3⟩ := am_r_e hh2
      obtain ⟨hc, n, hnl, rfl, hx01, hh4⟩ := am_b_e hh3
      have hcl : (nI n).toNatClampNeg = n := nI_clamp (Nat.lt_trans hnl (am_len_lt M f))
      have hin : vp_in (nI n) (am_len M f) := vp_in_nI hnl (am_len_lt M f)
      have hk1 := am_beq hc
      have hf := am_k2 hk1
      have hi : i < am_cnt f := am_okt (am_okt hoks) _ List.mem_cons_self
      obtain ⟨q0, hq0⟩ := am_in hf hi
      have he := am_ws_at (ν := ν) (dA := dA) (M := M) hq0
      rw [am_cell_bool hk1] at he
      rw [am_len_eq (by omega)] at hin
      have hset := am_ws_set (ν := ν) (dA := dA) (M := M) (M' := am_si M f i n x) hq0 (by rw [am_cell_bool hk1, am_si_upd]) am_si_other
      have hnar : vp_nar .boolean x = x := by rcases hx01 with rfl | rfl <;> rfl
      refine va_zast hx hb hK hP hD hS q0 1 he rfl hin hd (fun H1 locs1 hP1 hD1 hS1 => ?_)
      rw [hcl, hnar, hset] at hP1 hD1
      exact go (n := 1) ho hh4 hokl (am_okt (am_okt (am_okt hoks))) ⟨hK, hP1, hD1, hS1, hM, am_St_si hf hSt⟩ hl
    | aastore =>
      obtain ⟨hd, ho⟩ := am_row2 hy hen rfl
      simp only [am_F] at h
      obtain ⟨g, j2, r0, rfl, hh1⟩ := am_r_e h
      obtain ⟨j, r1, rfl, hh2⟩ := am_i_e hh1
      obtain ⟨f, i, r, rfl, hh3⟩ := am_r_e hh2
      obtain ⟨hc, n, hnl, rfl, hh4⟩ := am_b_e hh3
      have hcl : (nI n).toNatClampNeg = n := nI_clamp (Nat.lt_trans hnl (am_len_lt M f))
      have hin : vp_in (nI n) (am_len M f) := vp_in_nI hnl (am_len_lt M f)
      simp only [Bool.and_eq_true, Bool.or_eq_true] at hc
      have hfg : (f = 4 ∧ g = 18) ∨ (f = 12 ∧ g = 22) := hc.imp (fun q => ⟨am_beq q.1, am_beq q.2⟩) (fun q => ⟨am_beq q.1, am_beq q.2⟩)
      have hi : i < am_cnt f := am_okt (am_okt hoks) _ List.mem_cons_self
      have hj2 : j2 < am_cnt g := hoks _ List.mem_cons_self
      have hi0 : i = 0 := by rcases hfg with ⟨rfl, -⟩ | ⟨rfl, -⟩ <;> (have : i < 1 := hi; omega)
      subst hi0
      have hf : f = 4 ∨ f = 12 := hfg.imp (fun q => q.1) (fun q => q.1)
      have hg : g < 59 := by omega
      have hk1 : am_kind f = 3 := by rcases hf with rfl | rfl <;> rfl
      have hkg : am_kind g = 0 := by rcases hfg with ⟨-, rfl⟩ | ⟨-, rfl⟩ <;> rfl
      obtain ⟨q0, hq0⟩ := am_in (f := f) (i := 0) (by omega) hi
      obtain ⟨q1, hq1⟩ := am_in hg hj2
      have he := am_ws_at (ν := ν) (dA := dA) (M := M) hq0
      have he1 := am_ws_at (ν := ν) (dA := dA) (M := M) hq1
      rw [am_cell_ref hk1] at he
      rw [am_cell_obj hkg] at he1
      rw [am_len_eq (by omega)] at hin hnl
      have hcg := (am_k0 hkg).2.1
      have hset := am_ws_set (ν := ν) (dA := dA) (M := M) (M' := am_sv M f n j2) (e := .inl (dA (am_cls f - 4), am_len0 f, .inr (.inr (.inr (.inr (va_up (fun k => some (ν (am_rfA f) (am_riA M f 0 k))) n (some (ν g j2)))))))) hq0 (by
        rw [am_cell_ref hk1]
        refine congrArg (fun z => (.inl (dA (am_cls f - 4), am_len0 f, .inr (.inr (.inr (.inr z)))) : va_E)) ?_
        funext k
        unfold va_up
        by_cases hkn : k = n
        · subst hkn
          rw [if_pos rfl]
          rcases hfg with ⟨rfl, rfl⟩ | ⟨rfl, rfl⟩
          · show some (ν 18 ((am_sv M 4 k j2).2.1 4 k)) = _
            rw [am_sv_at, if_pos ⟨rfl, rfl⟩]
          · show some (ν 22 ((am_sv M 12 k j2).2.1 12 k)) = _
            rw [am_sv_at, if_pos ⟨rfl, rfl⟩]
        · rw [if_neg hkn]
          rcases hf with rfl | rfl
          · show some (ν 18 ((am_sv M 4 n j2).2.1 4 k)) = some (ν 18 (M.2.1 4 k))
            rw [am_sv_at, if_neg (fun q => hkn q.2)]
          · show some (ν 22 ((am_sv M 12 n j2).2.1 12 k)) = some (ν 22 (M.2.1 12 k))
            rw [am_sv_at, if_neg (fun q => hkn q.2)]) (am_sv_arr hf)
      have hty : (am_aT dA)[(am_cls f - 4)]? = some (dA (am_cls f - 4), .object (am_on (am_cls g))) := by
        rcases hfg with ⟨rfl, rfl⟩ | ⟨rfl, rfl⟩ <;> rfl
      refine va_astq hx hb hK hP hD hS q0 (am_cls f - 4) q1 (am_cls g) (r := (am_on (am_cls g), am_Tc (am_cls g), am_Nc (am_cls g))) he hty he1 (am_cl_full _ hcg) hin hd (fun H1 locs1 hP1 hD1 hS1 => ?_)
      rw [hcl, hset] at hP1 hD1
      refine go (n := 1) ho hh4 hokl (am_okt (am_okt (am_okt hoks))) ⟨hK, hP1, hD1, hS1, ⟨fun k hk => ?_, fun k hk => ?_, ?_, ?_⟩, hSt⟩ hl
      · rw [am_sv_at]; split
        · rename_i q; rcases hfg with ⟨-, rfl⟩ | ⟨rfl, -⟩
          · exact hj2
          · omega
        · exact hM.1 k hk
      · rw [am_sv_at]; split
        · rename_i q; rcases hfg with ⟨rfl, -⟩ | ⟨-, rfl⟩
          · omega
          · exact hj2
        · exact hM.2.1 k hk
      · rw [am_sv_at, if_neg (by omega)]; exact hM.2.2.1
      · rw [am_sv_at, if_neg (by omega)]; exact hM.2.2.2
    | arraylength =>
      obtain ⟨hd, ho⟩ := am_row2 hy hen rfl
      simp only [am_F] at h
      obtain ⟨f, i, r, rfl, hh1⟩ := am_r_e h
      obtain ⟨hc, hh2⟩ := am_b_e hh1
      have hk1 := am_beq hc
      have hi : i < am_cnt f := hoks _ List.mem_cons_self
      rcases am_k1 hk1 with hf | rfl | rfl | rfl
      · obtain ⟨q0, hq0⟩ := am_in hf hi
        have he := am_ws_at (ν := ν) (dA := dA) (M := M) hq0
        rw [am_cell_int hk1] at he
        rw [am_len_eq (by omega)] at hh2
        refine va_alen hx hb hK hP q0 0 he (ty := .int) rfl rfl hd ?_
        exact go (n := 1) ho hh2 hokl (am_okc trivial (am_okt hoks)) Wd hl
      · have hi0 : i = 0 := by have : i < 1 := hi; omega
        subst hi0
        obtain ⟨-, z2, z3, z4⟩ := hSt.1 59 (Or.inl rfl)
        refine va_slen hx hb z2 z3 z4 hS hd ?_
        exact go (n := 1) ho hh2 hokl (am_okc trivial (am_okt hoks)) Wd hl
      · have hi0 : i = 0 := by have : i < 1 := hi; omega
        subst hi0
        obtain ⟨-, z2, z3, z4⟩ := hSt.1 60 (Or.inr rfl)
        refine va_slen hx hb z2 z3 z4 hS hd ?_
        exact go (n := 1) ho hh2 hokl (am_okc trivial (am_okt hoks)) Wd hl
      · have hi0 : i = 0 := by have : i < 1 := hi; omega
        subst hi0
        obtain ⟨z2, z3, z4⟩ := hSt.2
        refine va_slen hx hb z2 z3 z4 hS hd ?_
        exact go (n := 1) ho hh2 hokl (am_okc trivial (am_okt hoks)) Wd hl
    | getstatic k =>
      obtain ⟨hd, ho⟩ := am_row2 hy hen rfl
      simp only [am_F] at h
      obtain ⟨hc, hh1⟩ := am_b_e h
      simp only [Bool.or_eq_true] at hc
      have ha : a = 59 ∨ a = 60 := hc.imp am_beq am_beq
      simp only [am_okI, Bool.and_eq_true] at ho
      obtain ⟨qp, hqp⟩ := am_has4_e ho.1
      have hpos := am_sk_ok _ hqp
      dsimp only at hpos
      obtain ⟨z1, -, -, -⟩ := hSt.1 a ha
      refine va_gets hx hb z1 hS hown (hts _ (am_tb_in hpos rfl)) (fun _ q => q) hd ?_
      exact go (n := 3) ho.2 hh1 hokl (am_okc (by rcases ha with rfl | rfl <;> exact (show 0 < 1 by decide)) hoks) Wd hl
    | invokevirtual k =>
      obtain ⟨hd, ho⟩ := am_row2 hy hen rfl
      simp only [am_F] at h
      simp only [am_okI, Bool.and_eq_true] at ho
      obtain ⟨⟨⟨ho1, ho2⟩, ho3⟩, hn⟩ := ho
      obtain ⟨qp, hqp⟩ := am_has4_e ho1
      obtain ⟨ha, hpos⟩ := am_mk_ok _ hqp
      dsimp only at ha hpos
      have hmi := am_beq ho2
      have hnp := am_beq ho3
      unfold am_call at h
      cases hp : am_pop (b + 1) st [] with
      | none => rw [hp] at h; exact h.elim
      | some q =>
        obtain ⟨as, rest⟩ := q
        rw [hp] at h
        obtain ⟨hc, hd1, Q', hY, hk⟩ := am_b_e h
        simp only [Bool.and_eq_true, Bool.false_or] at hc
        obtain ⟨⟨hc1, hc2⟩, hc3⟩ := hc
        have hc1 := Nat.le_of_ble_eq_true hc1
        have hc2 := Nat.le_of_ble_eq_true hc2
        obtain ⟨hpo, hle⟩ := am_pop_of hp
        simp only [List.reverse_nil, List.nil_append] at hpo
        have hokas : ∀ v ∈ as, am_okV v := fun v hv => hoks v (by rw [hpo]; exact List.mem_append_left _ (List.mem_reverse.mpr hv))
        have hokr : ∀ v ∈ rest, am_okV v := fun v hv => hoks v (by rw [hpo]; exact List.mem_append_right _ hv)
        have hgood : GoodIn am_tb (am_wsM a) := by
          intro w hw
          rcases List.mem_cons.mp hw with rfl | hw
          · exact ⟨am_tb_in (am_mw_ok a ha) rfl, Or.inl (by rfl)⟩
          · exact ⟨hw, good_of_word (List.mem_filter.mp hw).2⟩
        have hpn := am_mw_pn a (by omega)
        have hml14 := am_ml_lt a (by omega)
        have hini : (Cond.initialized (am_mn a).cls).before args s = true := hts _ (am_tb_in (am_mw_it a ha) rfl)
        have hlk : (Cond.methodLink (am_on (am_mc y)) k (am_mn a)).before args s = true := hts _ (am_tb_in hpos rfl)
        have hmet := am_met (l := l) ha hY hokas hc2 ν dA D A
        have hRm : (⟨d - 1, 0, 0, 40 * (d - 1)⟩ : Room).frames + 1 ≤ R.frames ∧ 8 + (am_ml a + 11) + (⟨d - 1, 0, 0, 40 * (d - 1)⟩ : Room).locals ≤ R.locals := ⟨by show d - 1 + 1 ≤ _; have := Rm.1; omega, by show 8 + (am_ml a + 11) + 40 * (d - 1) ≤ _; have := Rm.2.1; omega⟩
        have hCB : CallB R s args (am_on (am_mc y)) k (am_mn a) (am_bt a) (am_ml a) (am_rtT a) (am_wsM a) ⟨d - 1, 0, 0, 40 * (d - 1)⟩ 0 0 (am_np a) := callB_of (am_np a) hts hgood rfl rfl rfl hini hlk ⟨hpn.2.1, hpn.2.2.1, hpn.2.2.2⟩ hRm
        have hW8 : 2 * (F0 m (am_pc y pc) lsc (st.map (am_rv ν))).monitorRoom + ((rest.map (am_rv ν)).map fun v => v.category).sum ≤ 8 := lv_room (by rw [am_cat_sum]; exact hc1)
        have hcs : cells + 0 ≤ R.cells ∧ slots + 0 ≤ R.slots := ⟨Rm.2.2.1, Rm.2.2.2⟩
        have fin : ∀ (r : Option am_V) (M' : am_M) (H' : Heap) (locs' : List Loc), Q' r M' → (∀ v, r = some v → am_okV v) → am_Wd ν dA D A s H' locs' M' → W p l e R s m args below meth c H' locs' cells slots Qm (F0 m (am_pc y pc + 3) lsc ((r.map (am_rv ν)).toList ++ rest.map (am_rv ν))) := by
          intro r M' H' locs' hq hokv hWd
          have hs := hk r M' hq
          have hst : (r.map (am_rv ν)).toList ++ rest.map (am_rv ν) = (r.toList ++ rest).map (am_rv ν) := by cases r <;> rfl
          rw [hst]
          refine go (n := 3) hn hs hokl (fun v hv => ?_) hWd hl
          rcases List.mem_append.mp hv with hv | hv
          · exact hokv v (by cases r with
              | none => simp at hv
              | some w => simp at hv; rw [hv])
          · exact hokr v hv
        obtain ⟨hw1, hw2⟩ := am_mw_in a ha hmi
        match as, hc3, hpo, hle, hokas, hmet with
        | [], hc3, _, _, _, _ => simp [am_recv] at hc3
        | .inl x :: as', hc3, _, _, _, _ => simp [am_recv] at hc3
        | .inr (.inr x) :: as', hc3, _, _, _, _ => simp [am_recv] at hc3
        | .inr (.inl (f, i)) :: as', hc3, hpo, hle, hokas, hmet =>
          simp only [am_recv, Bool.and_eq_true] at hc3
          have hk0 := am_beq hc3.1
          have hcf := am_beq hc3.2
          obtain ⟨hf, hc11, -⟩ := am_k0 hk0
          have hi : i < am_cnt f := hokas _ List.mem_cons_self
          obtain ⟨q0, hq0⟩ := am_in hf hi
          have he := am_ws_at (ν := ν) (dA := dA) (M := M) hq0
          rw [am_cell_obj hk0] at he
          have hrecv := va_recv hK hP (am_cl_full _ hc11) he
          dsimp only at hrecv
          rw [hcf] at hrecv
          refine am_run (va_runV (As := as'.map (am_rv ν)) (rest := rest.map (am_rv ν)) (b := ν f i) (C := am_on (am_mc a)) ⟨hx, hb, hml, hown, hts⟩ hmet ⟨hCB, hts _ (am_tb_in hw1 rfl), hts _ (am_tb_in hw2 rfl)⟩ ⟨am_W0_blind, hrecv, fun U hU hW => ⟨rfl, am_W0_of Wd hU hW⟩⟩ rfl (by simp at hle ⊢; omega) hl.2.1 ?_ hW8 hd hcs) Wd fin
          show st.map (am_rv ν) = _
          rw [hpo]; simp [am_rv]
    | invokestatic k =>
      obtain ⟨hd, ho⟩ := am_row2 hy hen rfl
      simp only [am_F] at h
      simp only [am_okI, Bool.and_eq_true] at ho
      obtain ⟨ho1, hn⟩ := ho
      cases h999 : Nat.beq a 999 with
      | true =>
        rw [h999] at h ho1
        obtain ⟨n, r0, rfl, hh1⟩ := am_i_e h
        obtain ⟨q, r1, rfl, hh2⟩ := am_i_e hh1
        obtain ⟨g, k2, r2, rfl, hh3⟩ := am_r_e hh2
        obtain ⟨pp, r3, rfl, hh4⟩ := am_i_e hh3
        obtain ⟨f, i, r, rfl, hh5⟩ := am_r_e hh4
        obtain ⟨hc, hd1, rfl, rfl, rfl, hh6⟩ := am_b_e hh5
        simp only [Bool.and_eq_true] at hc
        obtain ⟨⟨⟨⟨⟨hcat, hkf⟩, hkg⟩, hf⟩, hg⟩, hlen⟩ := hc
        have hcat := Nat.le_of_ble_eq_true hcat
        have hkf := am_beq hkf
        have hkg := am_beq hkg
        have hf := am_blt hf
        have hg := am_blt hg
        have hlen := am_beq hlen
        have hi : i < am_cnt f := am_okt (am_okt (am_okt (am_okt hoks))) _ List.mem_cons_self
        have hk2 : k2 < am_cnt g := am_okt (am_okt hoks) _ List.mem_cons_self
        obtain ⟨q0, hq0⟩ := am_in hf hi
        obtain ⟨q1, hq1⟩ := am_in hg hk2
        have he0 := am_ws_at (ν := ν) (dA := dA) (M := M) hq0
        have he1 := am_ws_at (ν := ν) (dA := dA) (M := M) hq1
        rw [am_cell_int hkf] at he0
        rw [am_cell_int hkg] at he1
        obtain ⟨qp, hqp⟩ := am_has3_e ho1
        have hpos := am_ak_ok _ hqp
        dsimp only at hpos
        have hl0 := am_l0 f
        have hcl : (nI (am_len0 f)).toNatClampNeg = am_len0 f := nI_clamp (by omega)
        have hset := am_ws_set (ν := ν) (dA := dA) (M := M) (M' := am_sr M g k2 (va_cpy (M.1 f i) (M.1 g k2) 0 0 (am_len0 f))) (e := .inl (dA 0, am_len0 g, .inl (va_cpy (M.1 f i) (M.1 g k2) 0 0 (am_len0 f)))) hq1 (by rw [am_cell_int hkg, am_sr_row]) am_sr_other
        refine va_copyi hx hb (hml.trans hl.2.1.symm) hown (hts _ (am_tb_in hpos rfl)) (hts _ (am_tb_in am_nw_ok.1 rfl)) (hts _ (am_tb_in am_nw_ok.2.1 rfl)) (hts _ (am_tb_in am_nw_ok.2.2 rfl)) hK hP hD hS q0 q1 0 0 (ty := .int) he0 he1 rfl rfl rfl (by decide) (by decide) (nI_pos (by omega)) (by rw [hcl]; exact Nat.le_of_eq (Nat.zero_add _)) (by rw [hcl, hlen]; exact Nat.le_of_eq (Nat.zero_add _)) (fun _ _ => rfl) (by have := Rm.1; omega) ?_ hd (fun H1 locs1 hP1 hD1 hS1 => ?_)
        · rw [am_cat_sum]
          have : nativeFrameWords "java/lang/System" "arraycopy" 5 = 7 := by decide +kernel
          have := Rm.2.1
          omega
        · rw [hcl, show (0 : Int32).toNatClampNeg = 0 from rfl, hset] at hP1 hD1
          exact go (n := 3) hn hh6 hokl (am_okt (am_okt (am_okt (am_okt (am_okt hoks))))) ⟨hK, hP1, hD1, hS1, hM, am_St_sr hg hSt⟩ hl
      | false =>
        rw [h999] at h ho1
        simp only [cond_false, Bool.and_eq_true] at ho1
        obtain ⟨⟨ho1, ho2⟩, ho3⟩ := ho1
        obtain ⟨qp, hqp⟩ := am_has4_e ho1
        obtain ⟨ha, hpos⟩ := am_mk_ok _ hqp
        dsimp only at ha hpos
        have hmi := am_beq ho2
        have hnp := am_beq ho3
        have h : am_call am_Sem am_Sem d y pc ls M Q a (am_pop b st []) true := h
        unfold am_call at h
        cases hp : am_pop b st [] with
        | none => rw [hp] at h; exact h.elim
        | some q =>
          obtain ⟨as, rest⟩ := q
          rw [hp] at h
          obtain ⟨hc, hd1, Q', hY, hk⟩ := am_b_e h
          simp only [Bool.and_eq_true, Bool.true_or] at hc
          obtain ⟨⟨hc1, hc2⟩, -⟩ := hc
          have hc1 := Nat.le_of_ble_eq_true hc1
          have hc2 := Nat.le_of_ble_eq_true hc2
          obtain ⟨hpo, hle⟩ := am_pop_of hp
          simp only [List.reverse_nil, List.nil_append] at hpo
          have hokas : ∀ v ∈ as, am_okV v := fun v hv => hoks v (by rw [hpo]; exact List.mem_append_left _ (List.mem_reverse.mpr hv))
          have hokr : ∀ v ∈ rest, am_okV v := fun v hv => hoks v (by rw [hpo]; exact List.mem_append_right _ hv)
          have hgood : GoodIn am_tb (am_wsM a) := by
            intro w hw
            rcases List.mem_cons.mp hw with rfl | hw
            · exact ⟨am_tb_in (am_mw_ok a ha) rfl, Or.inl (by rfl)⟩
            · exact ⟨hw, good_of_word (List.mem_filter.mp hw).2⟩
          have hpn := am_mw_pn a (by omega)
          have hml14 := am_ml_lt a (by omega)
          have hini : (Cond.initialized (am_mn a).cls).before args s = true := hts _ (am_tb_in (am_mw_it a ha) rfl)
          have hlk : (Cond.methodLink (am_on (am_mc y)) k (am_mn a)).before args s = true := hts _ (am_tb_in hpos rfl)
          have hmet := am_met (l := l) ha hY hokas hc2 ν dA D A
          have hRm : (⟨d - 1, 0, 0, 40 * (d - 1)⟩ : Room).frames + 1 ≤ R.frames ∧ 8 + (am_ml a + 11) + (⟨d - 1, 0, 0, 40 * (d - 1)⟩ : Room).locals ≤ R.locals := ⟨by show d - 1 + 1 ≤ _; have := Rm.1; omega, by show 8 + (am_ml a + 11) + 40 * (d - 1) ≤ _; have := Rm.2.1; omega⟩
          have hCB : CallB R s args (am_on (am_mc y)) k (am_mn a) (am_bt a) (am_ml a) (am_rtT a) (am_wsM a) ⟨d - 1, 0, 0, 40 * (d - 1)⟩ 0 0 (am_np a) := callB_of (am_np a) hts hgood rfl rfl rfl hini hlk ⟨hpn.2.1, hpn.2.2.1, hpn.2.2.2⟩ hRm
          have hW8 : 2 * (F0 m (am_pc y pc) lsc (st.map (am_rv ν))).monitorRoom + ((rest.map (am_rv ν)).map fun v => v.category).sum ≤ 8 := lv_room (by rw [am_cat_sum]; exact hc1)
          have hcs : cells + 0 ≤ R.cells ∧ slots + 0 ≤ R.slots := ⟨Rm.2.2.1, Rm.2.2.2⟩
          have fin : ∀ (r : Option am_V) (M' : am_M) (H' : Heap) (locs' : List Loc), Q' r M' → (∀ v, r = some v → am_okV v) → am_Wd ν dA D A s H' locs' M' → W p l e R s m args below meth c H' locs' cells slots Qm (F0 m (am_pc y pc + 3) lsc ((r.map (am_rv ν)).toList ++ rest.map (am_rv ν))) := by
            intro r M' H' locs' hq hokv hWd
            have hs := hk r M' hq
            have hst : (r.map (am_rv ν)).toList ++ rest.map (am_rv ν) = (r.toList ++ rest).map (am_rv ν) := by cases r <;> rfl
            rw [hst]
            refine go (n := 3) hn hs hokl (fun v hv => ?_) hWd hl
            rcases List.mem_append.mp hv with hv | hv
            · exact hokv v (by cases r with
                | none => simp at hv
                | some w => simp at hv; rw [hv])
            · exact hokr v hv
          have hw1 := am_mw_st a ha hmi
          refine am_run (va_runS (As := as.map (am_rv ν)) (rest := rest.map (am_rv ν)) ⟨hx, hb, hml, hown, hts⟩ hmet ⟨hCB, hts _ (am_tb_in hw1 rfl)⟩ ⟨am_W0_blind, fun U hU hW => ⟨rfl, am_W0_of Wd hU hW⟩⟩ rfl (by simp at hle ⊢; omega) hl.2.1 ?_ hW8 hd hcs) Wd fin
          show st.map (am_rv ν) = _
          rw [hpo]; simp
    | ireturn =>
      obtain ⟨hd, ho⟩ := am_row2 hy hen rfl
      obtain ⟨x, r, rfl, hh1⟩ := am_i_e h
      simp only [am_okI, Bool.and_eq_true, Bool.or_eq_true] at ho
      obtain ⟨ho1, ho2⟩ := ho
      have ha := am_beq ho1
      cases r with
      | cons v r => exact hh1.elim
      | nil =>
        refine hr pc lsc (some (.inl x)) M H locs (Or.inl ⟨x, rfl, hd, ?_⟩) (fun v hv => by cases hv; trivial) ?_ Wd
        · rcases ho2 with q | q
          · exact Or.inl (by rw [← ha]; exact am_beq q)
          · have q := am_beq q
            refine Or.inr ⟨by rw [← ha]; exact q, ?_⟩
            subst q
            exact hh1.1
        · rcases ho2 with q | q
          · have q := am_beq q
            subst q; exact hh1
          · have q := am_beq q
            subst q; exact hh1.2
    | lreturn =>
      obtain ⟨hd, ho⟩ := am_row2 hy hen rfl
      obtain ⟨x, r, rfl, hh1⟩ := am_l_e h
      cases r with
      | cons v r => exact hh1.elim
      | nil => exact hr pc lsc (some (.inr (.inr x))) M H locs (Or.inr (Or.inl ⟨x, rfl, hd, am_beq ho⟩)) (fun v hv => by cases hv; trivial) hh1 Wd
    | areturn =>
      obtain ⟨hd, ho⟩ := am_row2 hy hen rfl
      simp only [am_F] at h
      obtain ⟨f, i, r, rfl, hh1⟩ := am_r_e h
      cases r with
      | cons v r => exact hh1.elim
      | nil => exact hr pc lsc (some (.inr (.inl (f, i)))) M H locs (Or.inr (Or.inr (Or.inl ⟨(f, i), rfl, hd, am_beq ho⟩))) (fun v hv => by cases hv; exact hoks _ List.mem_cons_self) hh1 Wd
    | return_ =>
      obtain ⟨hd, ho⟩ := am_row2 hy hen rfl
      cases st with
      | cons v r => exact h.elim
      | nil => exact hr pc lsc none M H locs (Or.inr (Or.inr (Or.inr ⟨rfl, hd, am_beq ho⟩))) (fun v hv => by cases hv) h Wd
    | _ => exact h.elim
end
