section
/-! THE ABSTRACT MACHINE: values, memory, frames; one step as a predicate transformer.
A value: an int, a reference (family of cells, place in it), a long. Memory: the ints of all cells (family, place, slot), the places
that change of references (scans, joins, kept, spare), the one long. -/
abbrev am_V : Type := Int32 ⊕ ((Nat × Nat) ⊕ Int64)
abbrev am_M : Type := (Nat → Nat → Nat → Int32) × (Nat → Nat → Nat) × Int64
abbrev am_E : Type := Nat × Instr × Nat × Nat × Int32 × List Nat
abbrev am_P : Type := Option am_V → am_M → Prop
/-- depth left, method, index of the instruction, locals, stack, memory, what is to hold at the return -/
abbrev am_X : Type := Nat → Nat → Nat → List (Option am_V) → List am_V → am_M → am_P → Prop
def am_nth {α : Type} : List α → Nat → α → α
  | [], _, d => d
  | a :: _, 0, _ => a
  | _ :: l, n + 1, d => am_nth l n d
/-- memory with one int, one place, another -/
def am_si (M : am_M) (f i k : Nat) (x : Int32) : am_M := (fun f' i' k' => if f' = f ∧ i' = i ∧ k' = k then x else M.1 f' i' k', M.2.1, M.2.2)
def am_sv (M : am_M) (f k j : Nat) : am_M := (M.1, fun f' k' => if f' = f ∧ k' = k then j else M.2.1 f' k', M.2.2)
def am_sl (M : am_M) (x : Int64) : am_M := (M.1, M.2.1, x)
/-- a row of ints copied whole -/
def am_sr (M : am_M) (f i : Nat) (r : Nat → Int32) : am_M := (fun f' i' k' => if f' = f ∧ i' = i then r k' else M.1 f' i' k', M.2.1, M.2.2)
/-- locals: a store, also of a long; what it covers of another long goes -/
def am_set : List (Option am_V) → Nat → am_V → List (Option am_V)
  | [], _, _ => []
  | _ :: l, 0, v => some v :: l
  | some (.inr (.inr _)) :: _ :: l, 1, v => none :: some v :: l
  | a :: l, n + 1, v => a :: am_set l n v
def am_set2 : List (Option am_V) → Nat → Int64 → List (Option am_V)
  | [], _, _ => []
  | [_], 0, _ => [none]
  | _ :: _ :: l, 0, v => some (.inr (.inr v)) :: none :: l
  | some (.inr (.inr _)) :: _ :: _ :: l, 1, v => none :: some (.inr (.inr v)) :: none :: l
  | a :: l, n + 1, v => a :: am_set2 l n v
def am_ent : Nat → List am_V → List (Option am_V)
  | n, [] => List.replicate n none
  | n, .inr (.inr x) :: l => some (.inr (.inr x)) :: none :: am_ent (n - 2) l
  | n, v :: l => some v :: am_ent (n - 1) l
def am_pop : Nat → List am_V → List am_V → Option (List am_V × List am_V)
  | 0, st, acc => some (acc, st)
  | n + 1, v :: st, acc => am_pop n st (v :: acc)
  | _ + 1, [], _ => none
def am_cat : List am_V → Nat
  | [] => 0
  | .inr (.inr _) :: l => 2 + am_cat l
  | _ :: l => 1 + am_cat l
def am_i (st : List am_V) (K : Int32 → List am_V → Prop) : Prop := match st with
  | .inl x :: r => K x r
  | _ => False
def am_r (st : List am_V) (K : Nat → Nat → List am_V → Prop) : Prop := match st with
  | .inr (.inl q) :: r => K q.1 q.2 r
  | _ => False
def am_l (st : List am_V) (K : Int64 → List am_V → Prop) : Prop := match st with
  | .inr (.inr x) :: r => K x r
  | _ => False
/-- two ints, the lower one first -/
def am_ii (st : List am_V) (K : Int32 → Int32 → List am_V → Prop) : Prop := am_i st fun y r => am_i r fun x r => K x y r
def am_ll (st : List am_V) (K : Int64 → Int64 → List am_V → Prop) : Prop := am_l st fun y r => am_l r fun x r => K x y r
def am_vi (v : Option am_V) (K : Int32 → Prop) : Prop := match v with
  | some (.inl x) => K x
  | _ => False
def am_vr (v : Option am_V) (K : Nat → Nat → Prop) : Prop := match v with
  | some (.inr (.inl q)) => K q.1 q.2
  | _ => False
def am_vl (v : Option am_V) (K : Int64 → Prop) : Prop := match v with
  | some (.inr (.inr x)) => K x
  | _ => False
def am_cmp (c : Jvm.ClassFile.Cond) (x y : Int32) : Prop := match c with
  | .eq => x = y
  | .ne => ¬ x = y
  | .lt => x < y
  | .ge => y ≤ x
  | .gt => y < x
  | .le => x ≤ y
def am_sw (u : Int) : Int → List Nat → (Nat → Prop) → Prop
  | _, [], _ => True
  | lo, t :: ts, K => (u = lo → K t) ∧ am_sw u (lo + 1) ts K
end
section
/-! the tables of the abstract machine: families of cells, methods, their code by index; printed by wip/whole/gen.py -/
def am_fam : List (Nat × Nat × Nat × Nat) := [(0, 1, 3, 0), (0, 1, 9, 1), (1, 1, 3, 0), (1, 1, 3, 0), (3, 1, 13, 6), (1, 1, 12, 0), (1, 1, 6, 0), (1, 1, 10, 0), (0, 1, 4, 2), (3, 2, 4, 8), (0, 1, 12, 3), (0, 1, 3, 4), (3, 1, 4, 7), (1, 1, 24, 0), (1, 1, 5, 0), (1, 1, 4, 0), (2, 1, 6, 0), (0, 1, 3, 5), (0, 13, 6, 6), (1, 13, 4, 0), (1, 13, 4, 0), (1, 13, 4, 0), (0, 4, 3, 7), (1, 4, 4, 0), (0, 8, 4, 8), (3, 8, 6, 9), (1, 8, 48, 0), (0, 48, 9, 9), (0, 1, 39, 10), (1, 1, 3, 0), (1, 1, 3, 0), (1, 1, 12, 0), (1, 1, 12, 0), (1, 1, 12, 0), (1, 1, 48, 0), (1, 1, 48, 0), (1, 1, 48, 0), (1, 1, 4, 0), (1, 1, 4, 0), (1, 1, 4, 0), (1, 1, 10, 0), (1, 1, 6, 0), (1, 1, 12, 0), (1, 1, 8, 0), (1, 1, 8, 0), (1, 1, 384, 0), (1, 1, 48, 0), (1, 1, 48, 0), (1, 1, 48, 0), (1, 1, 48, 0), (1, 1, 48, 0), (1, 1, 48, 0), (1, 1, 48, 0), (1, 1, 48, 0), (2, 1, 48, 0), (1, 1, 32, 0), (1, 1, 5, 0), (1, 1, 5, 0), (1, 1, 5, 0), (1, 1, 6, 0), (1, 1, 6, 0), (1, 1, 0, 0)]
def am_ftyT : List (List Nat) := [[2, 2, 2], [1, 0, 0, 2, 2, 2, 2, 2, 2], [2, 0, 2, 2], [2, 0, 0, 0, 3, 0, 0, 0, 2, 2, 2, 2], [0, 0, 2], [0, 0, 0], [0, 0, 0, 2, 2, 2], [0, 0, 2], [0, 0, 2, 2], [0, 0, 0, 0, 0, 0, 0, 0, 1], [0, 0, 0, 2, 2, 2, 2, 2, 2, 2, 2, 2, 2, 2, 2, 2, 1, 2, 0, 0, 2, 2, 2, 2, 2, 2, 2, 2, 2, 2, 2, 2, 2, 0, 2, 2, 2, 0, 0]]
def am_rfT : List (List Nat) := [[1, 8, 17], [0, 0, 0, 2, 3, 4, 5, 6, 7], [9, 0, 9, 10], [11, 0, 0, 0, 0, 0, 0, 0, 13, 14, 15, 16], [0, 0, 12], [0, 0, 0], [0, 0, 0, 19, 20, 21], [0, 0, 23], [0, 0, 25, 26], [0, 0, 0, 0, 0, 0, 0, 0, 0], [0, 0, 0, 29, 30, 31, 32, 33, 34, 35, 36, 37, 38, 39, 40, 41, 0, 42, 0, 0, 43, 44, 45, 46, 47, 48, 49, 50, 51, 52, 53, 54, 55, 0, 56, 57, 58, 0, 0]]
/-- of each method: class number, most locals, kind of answer (0 int 1 boolean 2 none 3 long 4 reference), instance -/
def am_mth : List (Nat × Nat × Nat × Nat) := [(0, 1, 0, 1), (0, 4, 0, 1), (0, 5, 0, 1), (0, 3, 0, 1), (0, 2, 0, 1), (0, 4, 0, 1), (0, 4, 0, 1), (0, 1, 0, 1), (0, 2, 0, 1), (0, 2, 0, 1), (0, 2, 0, 1), (0, 4, 0, 1), (0, 4, 0, 1), (0, 7, 0, 1), (0, 2, 0, 1), (0, 3, 0, 1), (0, 3, 0, 1), (0, 2, 0, 1), (0, 7, 0, 1), (0, 4, 0, 1), (0, 7, 0, 1), (0, 3, 0, 1), (0, 4, 0, 1), (0, 6, 0, 1), (0, 2, 0, 1), (0, 3, 1, 0), (0, 1, 0, 0), (0, 4, 0, 1), (0, 7, 0, 1), (0, 8, 0, 1), (0, 4, 0, 1), (0, 4, 0, 1), (1, 2, 1, 1), (1, 2, 1, 1), (1, 3, 1, 1), (1, 1, 4, 1), (1, 3, 2, 1), (1, 4, 2, 1), (1, 3, 2, 1), (1, 3, 0, 1), (1, 3, 0, 1), (1, 3, 0, 1), (2, 3, 2, 1), (2, 6, 2, 1), (2, 2, 1, 1), (2, 3, 1, 1), (2, 4, 1, 1), (2, 4, 1, 1), (3, 2, 2, 1), (3, 5, 2, 1), (3, 12, 2, 1), (3, 7, 0, 1), (3, 5, 2, 1), (3, 5, 1, 1), (3, 7, 2, 0), (4, 2, 2, 1), (4, 2, 1, 1), (4, 6, 2, 1), (5, 8, 2, 1), (5, 5, 2, 1), (5, 1, 0, 1), (5, 1, 0, 1), (6, 4, 2, 1), (7, 4, 0, 1), (8, 1, 2, 1), (8, 3, 2, 1), (8, 3, 0, 1), (8, 5, 0, 1), (8, 3, 0, 1), (8, 3, 0, 1), (8, 3, 1, 1), (8, 9, 2, 1), (9, 2, 2, 1), (9, 5, 2, 1), (9, 6, 2, 1), (9, 2, 2, 1), (9, 1, 1, 1), (9, 2, 1, 1), (9, 3, 0, 1), (9, 3, 0, 1), (9, 3, 0, 1), (9, 2, 0, 1), (10, 4, 1, 1), (10, 2, 1, 1), (10, 2, 1, 1), (10, 3, 1, 1), (10, 1, 0, 1), (10, 4, 0, 1), (10, 4, 0, 1), (10, 4, 0, 1), (10, 4, 0, 1), (10, 4, 0, 1), (10, 4, 0, 1), (10, 3, 2, 1), (10, 3, 0, 1), (10, 3, 0, 1), (10, 11, 3, 1), (10, 13, 2, 1), (10, 4, 0, 1), (10, 10, 0, 1), (10, 5, 2, 1), (10, 6, 2, 1), (10, 4, 0, 1), (10, 4, 2, 1), (10, 5, 2, 1), (10, 10, 2, 1), (10, 7, 2, 1), (10, 2, 2, 1), (10, 2, 1, 1), (10, 3, 1, 1), (10, 1, 0, 1), (10, 2, 0, 1), (10, 2, 0, 1), (10, 2, 0, 1), (10, 5, 0, 1), (10, 4, 0, 1), (10, 4, 0, 1), (10, 5, 0, 1), (10, 2, 0, 1), (10, 5, 0, 1), (10, 5, 1, 1), (10, 3, 0, 1), (10, 4, 0, 1), (10, 6, 0, 1), (10, 6, 0, 1), (10, 8, 0, 1), (10, 4, 0, 1), (10, 6, 0, 1), (10, 8, 0, 1), (10, 3, 0, 1), (10, 5, 0, 1), (10, 2, 0, 1), (10, 7, 0, 1), (10, 5, 0, 1), (11, 3, 0, 0), (11, 2, 0, 0), (11, 2, 0, 0), (12, 4, 1, 0)]
-- 0 WhoIsWho.watcher()I
def am_c0 : List am_E := [(0, .aload_n 0, 0, 0, 0, []), (1, .getfield 12, 0, 0, 0, []), (4, .getfield 32, 1, 1, 0, []), (7, .iconst 3, 0, 0, 3, []), (8, .if_icmp .lt 6, 7, 0, 0, []), (11, .bipush (-4), 0, 0, (-4), []), (13, .ireturn, 0, 0, 0, []), (14, .aload_n 0, 0, 0, 0, []), (15, .getfield 12, 0, 0, 0, []), (18, .dup, 0, 0, 0, []), (19, .getfield 32, 1, 1, 0, []), (22, .iconst 1, 0, 0, 1, []), (23, .iadd, 0, 0, 0, []), (24, .putfield 32, 1, 1, 0, []), (27, .aload_n 0, 0, 0, 0, []), (28, .getfield 12, 0, 0, 0, []), (31, .getfield 32, 1, 1, 0, []), (34, .iconst 1, 0, 0, 1, []), (35, .isub, 0, 0, 0, []), (36, .ireturn, 0, 0, 0, [])]
-- 1 WhoIsWho.shift(III)I
def am_c1 : List am_E := [(0, .aload_n 0, 0, 0, 0, []), (1, .getfield 12, 0, 0, 0, []), (4, .iload_n 1, 0, 0, 0, []), (5, .invokevirtual 36, 32, 1, 0, []), (8, .ifCond .ne 5, 7, 0, 0, []), (11, .iconst (-1), 0, 0, (-1), []), (12, .ireturn, 0, 0, 0, []), (13, .iload_n 2, 0, 0, 0, []), (14, .bipush (-50), 0, 0, (-50), []), (16, .bipush 50, 0, 0, 50, []), (18, .invokestatic 40, 25, 3, 0, []), (21, .ifCond .eq 14, 17, 0, 0, []), (24, .iload_n 3, 0, 0, 0, []), (25, .bipush (-50), 0, 0, (-50), []), (27, .bipush 50, 0, 0, 50, []), (29, .invokestatic 40, 25, 3, 0, []), (32, .ifCond .ne 6, 19, 0, 0, []), (35, .bipush (-2), 0, 0, (-2), []), (37, .ireturn, 0, 0, 0, []), (38, .aload_n 0, 0, 0, 0, []), (39, .getfield 12, 0, 0, 0, []), (42, .getfield 44, 1, 3, 0, []), (45, .iload_n 1, 0, 0, 0, []), (46, .iload_n 2, 0, 0, 0, []), (47, .iastore, 0, 0, 0, []), (48, .aload_n 0, 0, 0, 0, []), (49, .getfield 12, 0, 0, 0, []), (52, .getfield 48, 1, 4, 0, []), (55, .iload_n 1, 0, 0, 0, []), (56, .iload_n 3, 0, 0, 0, []), (57, .iastore, 0, 0, 0, []), (58, .aload_n 0, 0, 0, 0, []), (59, .getfield 12, 0, 0, 0, []), (62, .iconst 1, 0, 0, 1, []), (63, .putfield 51, 1, 0, 0, []), (66, .iconst 0, 0, 0, 0, []), (67, .ireturn, 0, 0, 0, [])]
-- 2 WhoIsWho.dot(III)I
def am_c2 : List am_E := [(0, .iload_n 1, 0, 0, 0, []), (1, .sipush (-1000), 0, 0, (-1000), []), (4, .sipush 1000, 0, 0, 1000, []), (7, .invokestatic 40, 25, 3, 0, []), (10, .ifCond .eq 26, 15, 0, 0, []), (13, .iload_n 2, 0, 0, 0, []), (14, .sipush (-1000), 0, 0, (-1000), []), (17, .sipush 1000, 0, 0, 1000, []), (20, .invokestatic 40, 25, 3, 0, []), (23, .ifCond .eq 13, 15, 0, 0, []), (26, .iload_n 3, 0, 0, 0, []), (27, .iconst 0, 0, 0, 0, []), (28, .bipush 9, 0, 0, 9, []), (30, .invokestatic 40, 25, 3, 0, []), (33, .ifCond .ne 6, 17, 0, 0, []), (36, .bipush (-2), 0, 0, (-2), []), (38, .ireturn, 0, 0, 0, []), (39, .aload_n 0, 0, 0, 0, []), (40, .getfield 12, 0, 0, 0, []), (43, .invokevirtual 55, 35, 0, 0, []), (46, .astore 4, 0, 0, 0, []), (48, .aload 4, 0, 0, 0, []), (50, .getfield 59, 6, 2, 0, []), (53, .iconst 4, 0, 0, 4, []), (54, .if_icmp .lt 6, 27, 0, 0, []), (57, .bipush (-4), 0, 0, (-4), []), (59, .ireturn, 0, 0, 0, []), (60, .aload 4, 0, 0, 0, []), (62, .iload_n 1, 0, 0, 0, []), (63, .iload_n 2, 0, 0, 0, []), (64, .iload_n 3, 0, 0, 0, []), (65, .invokevirtual 64, 62, 3, 0, []), (68, .aload 4, 0, 0, 0, []), (70, .getfield 59, 6, 2, 0, []), (73, .ireturn, 0, 0, 0, [])]
-- 3 WhoIsWho.scan(II)I
def am_c3 : List am_E := [(0, .aload_n 0, 0, 0, 0, []), (1, .getfield 12, 0, 0, 0, []), (4, .iload_n 1, 0, 0, 0, []), (5, .invokevirtual 36, 32, 1, 0, []), (8, .ifCond .ne 5, 7, 0, 0, []), (11, .iconst (-1), 0, 0, (-1), []), (12, .ireturn, 0, 0, 0, []), (13, .iload_n 2, 0, 0, 0, []), (14, .iconst 0, 0, 0, 0, []), (15, .sipush 999, 0, 0, 999, []), (18, .invokestatic 40, 25, 3, 0, []), (21, .ifCond .ne 6, 14, 0, 0, []), (24, .bipush (-2), 0, 0, (-2), []), (26, .ireturn, 0, 0, 0, []), (27, .aload_n 0, 0, 0, 0, []), (28, .getfield 12, 0, 0, 0, []), (31, .getfield 68, 1, 2, 0, []), (34, .bipush 12, 0, 0, 12, []), (36, .if_icmp .lt 6, 21, 0, 0, []), (39, .bipush (-4), 0, 0, (-4), []), (41, .ireturn, 0, 0, 0, []), (42, .aload_n 0, 0, 0, 0, []), (43, .getfield 12, 0, 0, 0, []), (46, .iload_n 1, 0, 0, 0, []), (47, .iload_n 2, 0, 0, 0, []), (48, .invokevirtual 71, 36, 2, 0, []), (51, .aload_n 0, 0, 0, 0, []), (52, .getfield 12, 0, 0, 0, []), (55, .iconst 1, 0, 0, 1, []), (56, .putfield 51, 1, 0, 0, []), (59, .aload_n 0, 0, 0, 0, []), (60, .getfield 12, 0, 0, 0, []), (63, .getfield 68, 1, 2, 0, []), (66, .iconst 1, 0, 0, 1, []), (67, .isub, 0, 0, 0, []), (68, .ireturn, 0, 0, 0, [])]
-- 4 WhoIsWho.drop(I)I
def am_c4 : List am_E := [(0, .aload_n 0, 0, 0, 0, []), (1, .getfield 12, 0, 0, 0, []), (4, .iload_n 1, 0, 0, 0, []), (5, .invokevirtual 75, 33, 1, 0, []), (8, .ifCond .ne 5, 7, 0, 0, []), (11, .iconst (-1), 0, 0, (-1), []), (12, .ireturn, 0, 0, 0, []), (13, .aload_n 0, 0, 0, 0, []), (14, .getfield 12, 0, 0, 0, []), (17, .iload_n 1, 0, 0, 0, []), (18, .invokevirtual 78, 37, 1, 0, []), (21, .aload_n 0, 0, 0, 0, []), (22, .getfield 12, 0, 0, 0, []), (25, .iconst 1, 0, 0, 1, []), (26, .putfield 51, 1, 0, 0, []), (29, .aload_n 0, 0, 0, 0, []), (30, .getfield 12, 0, 0, 0, []), (33, .getfield 68, 1, 2, 0, []), (36, .ireturn, 0, 0, 0, [])]
-- 5 WhoIsWho.kind(II)I
def am_c5 : List am_E := [(0, .iload_n 1, 0, 0, 0, []), (1, .iconst 1, 0, 0, 1, []), (2, .bipush 9, 0, 0, 9, []), (4, .invokestatic 40, 25, 3, 0, []), (7, .ifCond .ne 5, 7, 0, 0, []), (10, .iconst (-1), 0, 0, (-1), []), (11, .ireturn, 0, 0, 0, []), (12, .iload_n 2, 0, 0, 0, []), (13, .iconst 0, 0, 0, 0, []), (14, .iconst 2, 0, 0, 2, []), (15, .invokestatic 40, 25, 3, 0, []), (18, .ifCond .ne 6, 14, 0, 0, []), (21, .bipush (-2), 0, 0, (-2), []), (23, .ireturn, 0, 0, 0, []), (24, .aload_n 0, 0, 0, 0, []), (25, .getfield 12, 0, 0, 0, []), (28, .getfield 82, 1, 8, 0, []), (31, .iload_n 1, 0, 0, 0, []), (32, .iaload, 0, 0, 0, []), (33, .istore_n 3, 0, 0, 0, []), (34, .aload_n 0, 0, 0, 0, []), (35, .getfield 12, 0, 0, 0, []), (38, .getfield 82, 1, 8, 0, []), (41, .iload_n 1, 0, 0, 0, []), (42, .iload_n 2, 0, 0, 0, []), (43, .iastore, 0, 0, 0, []), (44, .aload_n 0, 0, 0, 0, []), (45, .getfield 12, 0, 0, 0, []), (48, .iconst 1, 0, 0, 1, []), (49, .putfield 51, 1, 0, 0, []), (52, .iload_n 3, 0, 0, 0, []), (53, .ireturn, 0, 0, 0, [])]
-- 6 WhoIsWho.rule(II)I
def am_c6 : List am_E := [(0, .iload_n 1, 0, 0, 0, []), (1, .iconst 0, 0, 0, 0, []), (2, .iconst 5, 0, 0, 5, []), (3, .invokestatic 40, 25, 3, 0, []), (6, .ifCond .ne 5, 7, 0, 0, []), (9, .iconst (-1), 0, 0, (-1), []), (10, .ireturn, 0, 0, 0, []), (11, .iload_n 2, 0, 0, 0, []), (12, .getstatic 85, 59, 0, 0, []), (15, .iload_n 1, 0, 0, 0, []), (16, .iaload, 0, 0, 0, []), (17, .getstatic 88, 60, 0, 0, []), (20, .iload_n 1, 0, 0, 0, []), (21, .iaload, 0, 0, 0, []), (22, .invokestatic 40, 25, 3, 0, []), (25, .ifCond .ne 6, 18, 0, 0, []), (28, .bipush (-2), 0, 0, (-2), []), (30, .ireturn, 0, 0, 0, []), (31, .aload_n 0, 0, 0, 0, []), (32, .getfield 12, 0, 0, 0, []), (35, .getfield 91, 1, 7, 0, []), (38, .iload_n 1, 0, 0, 0, []), (39, .iaload, 0, 0, 0, []), (40, .istore_n 3, 0, 0, 0, []), (41, .aload_n 0, 0, 0, 0, []), (42, .getfield 12, 0, 0, 0, []), (45, .getfield 91, 1, 7, 0, []), (48, .iload_n 1, 0, 0, 0, []), (49, .iload_n 2, 0, 0, 0, []), (50, .iastore, 0, 0, 0, []), (51, .aload_n 0, 0, 0, 0, []), (52, .getfield 12, 0, 0, 0, []), (55, .iconst 1, 0, 0, 1, []), (56, .putfield 51, 1, 0, 0, []), (59, .iload_n 3, 0, 0, 0, []), (60, .ireturn, 0, 0, 0, [])]
-- 7 WhoIsWho.worlds()I
def am_c7 : List am_E := [(0, .aload_n 0, 0, 0, 0, []), (1, .getfield 21, 0, 1, 0, []), (4, .aload_n 0, 0, 0, 0, []), (5, .getfield 12, 0, 0, 0, []), (8, .invokevirtual 94, 42, 1, 0, []), (11, .aload_n 0, 0, 0, 0, []), (12, .getfield 21, 0, 1, 0, []), (15, .getfield 98, 2, 1, 0, []), (18, .ireturn, 0, 0, 0, [])]
-- 8 WhoIsWho.cost(I)I
def am_c8 : List am_E := [(0, .aload_n 0, 0, 0, 0, []), (1, .getfield 21, 0, 1, 0, []), (4, .aload_n 0, 0, 0, 0, []), (5, .getfield 12, 0, 0, 0, []), (8, .invokevirtual 94, 42, 1, 0, []), (11, .aload_n 0, 0, 0, 0, []), (12, .getfield 21, 0, 1, 0, []), (15, .iload_n 1, 0, 0, 0, []), (16, .invokevirtual 101, 44, 1, 0, []), (19, .ifCond .eq 18, 17, 0, 0, []), (22, .aload_n 0, 0, 0, 0, []), (23, .getfield 21, 0, 1, 0, []), (26, .getfield 104, 2, 0, 0, []), (29, .iload_n 1, 0, 0, 0, []), (30, .aaload, 0, 0, 0, []), (31, .getfield 108, 8, 0, 0, []), (34, .goto 5, 18, 0, 0, []), (37, .ldc 113, 0, 0, (-2147483648), []), (39, .ireturn, 0, 0, 0, [])]
-- 9 WhoIsWho.gap(I)I
def am_c9 : List am_E := [(0, .aload_n 0, 0, 0, 0, []), (1, .getfield 21, 0, 1, 0, []), (4, .aload_n 0, 0, 0, 0, []), (5, .getfield 12, 0, 0, 0, []), (8, .invokevirtual 94, 42, 1, 0, []), (11, .aload_n 0, 0, 0, 0, []), (12, .getfield 21, 0, 1, 0, []), (15, .iload_n 1, 0, 0, 0, []), (16, .invokevirtual 101, 44, 1, 0, []), (19, .ifCond .eq 31, 24, 0, 0, []), (22, .aload_n 0, 0, 0, 0, []), (23, .getfield 21, 0, 1, 0, []), (26, .getfield 104, 2, 0, 0, []), (29, .iload_n 1, 0, 0, 0, []), (30, .aaload, 0, 0, 0, []), (31, .getfield 108, 8, 0, 0, []), (34, .aload_n 0, 0, 0, 0, []), (35, .getfield 21, 0, 1, 0, []), (38, .getfield 104, 2, 0, 0, []), (41, .iconst 0, 0, 0, 0, []), (42, .aaload, 0, 0, 0, []), (43, .getfield 108, 8, 0, 0, []), (46, .isub, 0, 0, 0, []), (47, .goto 4, 25, 0, 0, []), (50, .iconst (-1), 0, 0, (-1), []), (51, .ireturn, 0, 0, 0, [])]
-- 10 WhoIsWho.tracks(I)I
def am_c10 : List am_E := [(0, .aload_n 0, 0, 0, 0, []), (1, .getfield 21, 0, 1, 0, []), (4, .aload_n 0, 0, 0, 0, []), (5, .getfield 12, 0, 0, 0, []), (8, .invokevirtual 94, 42, 1, 0, []), (11, .aload_n 0, 0, 0, 0, []), (12, .getfield 21, 0, 1, 0, []), (15, .iload_n 1, 0, 0, 0, []), (16, .invokevirtual 101, 44, 1, 0, []), (19, .ifCond .eq 18, 17, 0, 0, []), (22, .aload_n 0, 0, 0, 0, []), (23, .getfield 21, 0, 1, 0, []), (26, .getfield 104, 2, 0, 0, []), (29, .iload_n 1, 0, 0, 0, []), (30, .aaload, 0, 0, 0, []), (31, .getfield 114, 8, 1, 0, []), (34, .goto 4, 18, 0, 0, []), (37, .iconst (-1), 0, 0, (-1), []), (38, .ireturn, 0, 0, 0, [])]
-- 11 WhoIsWho.track(III)I
def am_c11 : List am_E := [(0, .aload_n 0, 0, 0, 0, []), (1, .getfield 21, 0, 1, 0, []), (4, .aload_n 0, 0, 0, 0, []), (5, .getfield 12, 0, 0, 0, []), (8, .invokevirtual 94, 42, 1, 0, []), (11, .aload_n 0, 0, 0, 0, []), (12, .getfield 21, 0, 1, 0, []), (15, .iload_n 1, 0, 0, 0, []), (16, .iload_n 2, 0, 0, 0, []), (17, .invokevirtual 117, 45, 2, 0, []), (20, .ifCond .ne 6, 13, 0, 0, []), (23, .ldc 113, 0, 0, (-2147483648), []), (25, .ireturn, 0, 0, 0, []), (26, .aload_n 0, 0, 0, 0, []), (27, .getfield 21, 0, 1, 0, []), (30, .getfield 104, 2, 0, 0, []), (33, .iload_n 1, 0, 0, 0, []), (34, .aaload, 0, 0, 0, []), (35, .getfield 121, 8, 2, 0, []), (38, .iload_n 2, 0, 0, 0, []), (39, .aaload, 0, 0, 0, []), (40, .iload_n 3, 0, 0, 0, []), (41, .invokevirtual 125, 81, 1, 0, []), (44, .ireturn, 0, 0, 0, [])]
-- 12 WhoIsWho.account(III)I
def am_c12 : List am_E := [(0, .aload_n 0, 0, 0, 0, []), (1, .getfield 21, 0, 1, 0, []), (4, .aload_n 0, 0, 0, 0, []), (5, .getfield 12, 0, 0, 0, []), (8, .invokevirtual 94, 42, 1, 0, []), (11, .aload_n 0, 0, 0, 0, []), (12, .getfield 21, 0, 1, 0, []), (15, .iload_n 1, 0, 0, 0, []), (16, .invokevirtual 101, 44, 1, 0, []), (19, .ifCond .eq 15, 16, 0, 0, []), (22, .aload_n 0, 0, 0, 0, []), (23, .getfield 12, 0, 0, 0, []), (26, .iload_n 2, 0, 0, 0, []), (27, .iload_n 3, 0, 0, 0, []), (28, .invokevirtual 131, 34, 2, 0, []), (31, .ifCond .ne 6, 18, 0, 0, []), (34, .bipush (-2), 0, 0, (-2), []), (36, .ireturn, 0, 0, 0, []), (37, .aload_n 0, 0, 0, 0, []), (38, .getfield 21, 0, 1, 0, []), (41, .getfield 104, 2, 0, 0, []), (44, .iload_n 1, 0, 0, 0, []), (45, .aaload, 0, 0, 0, []), (46, .iload_n 2, 0, 0, 0, []), (47, .iload_n 3, 0, 0, 0, []), (48, .invokevirtual 134, 66, 2, 0, []), (51, .ireturn, 0, 0, 0, [])]
-- 13 WhoIsWho.foretell(IIII)I
def am_c13 : List am_E := [(0, .aload_n 0, 0, 0, 0, []), (1, .getfield 21, 0, 1, 0, []), (4, .aload_n 0, 0, 0, 0, []), (5, .getfield 12, 0, 0, 0, []), (8, .invokevirtual 94, 42, 1, 0, []), (11, .aload_n 0, 0, 0, 0, []), (12, .getfield 21, 0, 1, 0, []), (15, .iload_n 1, 0, 0, 0, []), (16, .iload_n 2, 0, 0, 0, []), (17, .invokevirtual 117, 45, 2, 0, []), (20, .ifCond .eq 13, 16, 0, 0, []), (23, .iload 4, 0, 0, 0, []), (25, .iconst 0, 0, 0, 0, []), (26, .iconst 1, 0, 0, 1, []), (27, .invokestatic 40, 25, 3, 0, []), (30, .ifCond .ne 6, 18, 0, 0, []), (33, .ldc 113, 0, 0, (-2147483648), []), (35, .ireturn, 0, 0, 0, []), (36, .aload_n 0, 0, 0, 0, []), (37, .getfield 21, 0, 1, 0, []), (40, .getfield 104, 2, 0, 0, []), (43, .iload_n 1, 0, 0, 0, []), (44, .aaload, 0, 0, 0, []), (45, .getfield 121, 8, 2, 0, []), (48, .iload_n 2, 0, 0, 0, []), (49, .aaload, 0, 0, 0, []), (50, .astore 5, 0, 0, 0, []), (52, .iload_n 3, 0, 0, 0, []), (53, .aload 5, 0, 0, 0, []), (55, .getfield 138, 9, 4, 0, []), (58, .sipush 999, 0, 0, 999, []), (61, .invokestatic 40, 25, 3, 0, []), (64, .ifCond .ne 6, 35, 0, 0, []), (67, .ldc 113, 0, 0, (-2147483648), []), (69, .ireturn, 0, 0, 0, []), (70, .aload_n 0, 0, 0, 0, []), (71, .getfield 12, 0, 0, 0, []), (74, .getfield 82, 1, 8, 0, []), (77, .aload 5, 0, 0, 0, []), (79, .getfield 141, 9, 7, 0, []), (82, .iaload, 0, 0, 0, []), (83, .istore 6, 0, 0, 0, []), (85, .iload 4, 0, 0, 0, []), (87, .ifCond .ne 14, 49, 0, 0, []), (90, .aload 5, 0, 0, 0, []), (92, .iload 6, 0, 0, 0, []), (94, .iload_n 3, 0, 0, 0, []), (95, .invokevirtual 144, 78, 2, 0, []), (98, .goto 11, 53, 0, 0, []), (101, .aload 5, 0, 0, 0, []), (103, .iload 6, 0, 0, 0, []), (105, .iload_n 3, 0, 0, 0, []), (106, .invokevirtual 147, 79, 2, 0, []), (109, .ireturn, 0, 0, 0, [])]
-- 14 WhoIsWho.ordered(I)I
def am_c14 : List am_E := [(0, .aload_n 0, 0, 0, 0, []), (1, .getfield 12, 0, 0, 0, []), (4, .iload_n 1, 0, 0, 0, []), (5, .invokevirtual 75, 33, 1, 0, []), (8, .ifCond .ne 5, 7, 0, 0, []), (11, .iconst (-1), 0, 0, (-1), []), (12, .ireturn, 0, 0, 0, []), (13, .aload_n 0, 0, 0, 0, []), (14, .getfield 21, 0, 1, 0, []), (17, .aload_n 0, 0, 0, 0, []), (18, .getfield 12, 0, 0, 0, []), (21, .invokevirtual 94, 42, 1, 0, []), (24, .aload_n 0, 0, 0, 0, []), (25, .getfield 12, 0, 0, 0, []), (28, .getfield 150, 1, 6, 0, []), (31, .iload_n 1, 0, 0, 0, []), (32, .iaload, 0, 0, 0, []), (33, .ireturn, 0, 0, 0, [])]
-- 15 WhoIsWho.name(I)I
def am_c15 : List am_E := [(0, .iload_n 1, 0, 0, 0, []), (1, .iconst 1, 0, 0, 1, []), (2, .bipush 9, 0, 0, 9, []), (4, .invokestatic 40, 25, 3, 0, []), (7, .ifCond .ne 5, 7, 0, 0, []), (10, .iconst (-1), 0, 0, (-1), []), (11, .ireturn, 0, 0, 0, []), (12, .aload_n 0, 0, 0, 0, []), (13, .getfield 21, 0, 1, 0, []), (16, .aload_n 0, 0, 0, 0, []), (17, .getfield 12, 0, 0, 0, []), (20, .invokevirtual 94, 42, 1, 0, []), (23, .iconst 0, 0, 0, 0, []), (24, .istore_n 2, 0, 0, 0, []), (25, .iload_n 2, 0, 0, 0, []), (26, .aload_n 0, 0, 0, 0, []), (27, .getfield 21, 0, 1, 0, []), (30, .getfield 104, 2, 0, 0, []), (33, .iconst 0, 0, 0, 0, []), (34, .aaload, 0, 0, 0, []), (35, .getfield 114, 8, 1, 0, []), (38, .if_icmp .ge 23, 32, 0, 0, []), (41, .aload_n 0, 0, 0, 0, []), (42, .getfield 21, 0, 1, 0, []), (45, .iload_n 2, 0, 0, 0, []), (46, .iload_n 1, 0, 0, 0, []), (47, .invokevirtual 153, 46, 2, 0, []), (50, .ifCond .eq 5, 30, 0, 0, []), (53, .iload_n 2, 0, 0, 0, []), (54, .ireturn, 0, 0, 0, []), (55, .iinc 2 1, 0, 0, 1, []), (58, .goto (-33), 14, 0, 0, []), (61, .iconst (-1), 0, 0, (-1), []), (62, .ireturn, 0, 0, 0, [])]
-- 16 WhoIsWho.sure(II)I
def am_c16 : List am_E := [(0, .aload_n 0, 0, 0, 0, []), (1, .getfield 12, 0, 0, 0, []), (4, .iload_n 1, 0, 0, 0, []), (5, .iload_n 2, 0, 0, 0, []), (6, .invokevirtual 131, 34, 2, 0, []), (9, .ifCond .ne 5, 8, 0, 0, []), (12, .iconst (-1), 0, 0, (-1), []), (13, .ireturn, 0, 0, 0, []), (14, .aload_n 0, 0, 0, 0, []), (15, .getfield 21, 0, 1, 0, []), (18, .aload_n 0, 0, 0, 0, []), (19, .getfield 12, 0, 0, 0, []), (22, .invokevirtual 94, 42, 1, 0, []), (25, .aload_n 0, 0, 0, 0, []), (26, .getfield 21, 0, 1, 0, []), (29, .iload_n 1, 0, 0, 0, []), (30, .iload_n 2, 0, 0, 0, []), (31, .invokevirtual 156, 47, 2, 0, []), (34, .ifCond .eq 7, 21, 0, 0, []), (37, .iconst 1, 0, 0, 1, []), (38, .goto 4, 22, 0, 0, []), (41, .iconst 0, 0, 0, 0, []), (42, .ireturn, 0, 0, 0, [])]
-- 17 WhoIsWho.alive(I)I
def am_c17 : List am_E := [(0, .aload_n 0, 0, 0, 0, []), (1, .getfield 21, 0, 1, 0, []), (4, .aload_n 0, 0, 0, 0, []), (5, .getfield 12, 0, 0, 0, []), (8, .invokevirtual 94, 42, 1, 0, []), (11, .aload_n 0, 0, 0, 0, []), (12, .getfield 21, 0, 1, 0, []), (15, .iload_n 1, 0, 0, 0, []), (16, .invokevirtual 101, 44, 1, 0, []), (19, .ifCond .eq 18, 17, 0, 0, []), (22, .aload_n 0, 0, 0, 0, []), (23, .getfield 21, 0, 1, 0, []), (26, .getfield 104, 2, 0, 0, []), (29, .iload_n 1, 0, 0, 0, []), (30, .aaload, 0, 0, 0, []), (31, .invokevirtual 159, 69, 0, 0, []), (34, .goto 4, 18, 0, 0, []), (37, .iconst (-1), 0, 0, (-1), []), (38, .ireturn, 0, 0, 0, [])]
-- 18 WhoIsWho.path(II)I
def am_c18 : List am_E := [(0, .aload_n 0, 0, 0, 0, []), (1, .getfield 21, 0, 1, 0, []), (4, .aload_n 0, 0, 0, 0, []), (5, .getfield 12, 0, 0, 0, []), (8, .invokevirtual 94, 42, 1, 0, []), (11, .aload_n 0, 0, 0, 0, []), (12, .getfield 21, 0, 1, 0, []), (15, .iconst 0, 0, 0, 0, []), (16, .iload_n 1, 0, 0, 0, []), (17, .invokevirtual 117, 45, 2, 0, []), (20, .ifCond .eq 7, 13, 0, 0, []), (23, .iload_n 2, 0, 0, 0, []), (24, .ifCond .ge 5, 15, 0, 0, []), (27, .iconst (-1), 0, 0, (-1), []), (28, .ireturn, 0, 0, 0, []), (29, .iload_n 2, 0, 0, 0, []), (30, .istore_n 3, 0, 0, 0, []), (31, .iconst 0, 0, 0, 0, []), (32, .istore 4, 0, 0, 0, []), (34, .iload 4, 0, 0, 0, []), (36, .aload_n 0, 0, 0, 0, []), (37, .getfield 12, 0, 0, 0, []), (40, .getfield 68, 1, 2, 0, []), (43, .if_icmp .ge 50, 48, 0, 0, []), (46, .aload_n 0, 0, 0, 0, []), (47, .getfield 12, 0, 0, 0, []), (50, .getfield 150, 1, 6, 0, []), (53, .iload 4, 0, 0, 0, []), (55, .iaload, 0, 0, 0, []), (56, .istore 5, 0, 0, 0, []), (58, .aload_n 0, 0, 0, 0, []), (59, .iload 5, 0, 0, 0, []), (61, .iload_n 1, 0, 0, 0, []), (62, .invokevirtual 163, 27, 2, 0, []), (65, .istore 6, 0, 0, 0, []), (67, .iload 6, 0, 0, 0, []), (69, .ifCond .lt 18, 46, 0, 0, []), (72, .iload_n 3, 0, 0, 0, []), (73, .ifCond .ne 11, 45, 0, 0, []), (76, .iconst 4, 0, 0, 4, []), (77, .iload 5, 0, 0, 0, []), (79, .imul, 0, 0, 0, []), (80, .iload 6, 0, 0, 0, []), (82, .iadd, 0, 0, 0, []), (83, .ireturn, 0, 0, 0, []), (84, .iinc 3 (-1), 0, 0, (-1), []), (87, .iinc 4 1, 0, 0, 1, []), (90, .goto (-56), 19, 0, 0, []), (93, .iconst (-1), 0, 0, (-1), []), (94, .ireturn, 0, 0, 0, [])]
-- 19 WhoIsWho.apart(III)I
def am_c19 : List am_E := [(0, .aload_n 0, 0, 0, 0, []), (1, .getfield 21, 0, 1, 0, []), (4, .aload_n 0, 0, 0, 0, []), (5, .getfield 12, 0, 0, 0, []), (8, .invokevirtual 94, 42, 1, 0, []), (11, .aload_n 0, 0, 0, 0, []), (12, .getfield 21, 0, 1, 0, []), (15, .iconst 0, 0, 0, 0, []), (16, .iload_n 1, 0, 0, 0, []), (17, .invokevirtual 117, 45, 2, 0, []), (20, .ifCond .eq 15, 17, 0, 0, []), (23, .aload_n 0, 0, 0, 0, []), (24, .getfield 21, 0, 1, 0, []), (27, .iconst 0, 0, 0, 0, []), (28, .iload_n 2, 0, 0, 0, []), (29, .invokevirtual 117, 45, 2, 0, []), (32, .ifCond .ne 5, 19, 0, 0, []), (35, .iconst (-1), 0, 0, (-1), []), (36, .ireturn, 0, 0, 0, []), (37, .aload_n 0, 0, 0, 0, []), (38, .iload_n 1, 0, 0, 0, []), (39, .iload_n 2, 0, 0, 0, []), (40, .iload_n 3, 0, 0, 0, []), (41, .invokevirtual 166, 29, 3, 0, []), (44, .ireturn, 0, 0, 0, [])]
-- 20 WhoIsWho.near(III)I
def am_c20 : List am_E := [(0, .aload_n 0, 0, 0, 0, []), (1, .getfield 21, 0, 1, 0, []), (4, .aload_n 0, 0, 0, 0, []), (5, .getfield 12, 0, 0, 0, []), (8, .invokevirtual 94, 42, 1, 0, []), (11, .aload_n 0, 0, 0, 0, []), (12, .getfield 21, 0, 1, 0, []), (15, .iconst 0, 0, 0, 0, []), (16, .iload_n 1, 0, 0, 0, []), (17, .invokevirtual 117, 45, 2, 0, []), (20, .ifCond .eq 15, 17, 0, 0, []), (23, .aload_n 0, 0, 0, 0, []), (24, .getfield 21, 0, 1, 0, []), (27, .iconst 0, 0, 0, 0, []), (28, .iload_n 2, 0, 0, 0, []), (29, .invokevirtual 117, 45, 2, 0, []), (32, .ifCond .ne 5, 19, 0, 0, []), (35, .iconst (-1), 0, 0, (-1), []), (36, .ireturn, 0, 0, 0, []), (37, .iload_n 3, 0, 0, 0, []), (38, .iconst 0, 0, 0, 0, []), (39, .sipush 1000, 0, 0, 1000, []), (42, .invokestatic 40, 25, 3, 0, []), (45, .ifCond .eq 8, 27, 0, 0, []), (48, .iload_n 1, 0, 0, 0, []), (49, .iload_n 2, 0, 0, 0, []), (50, .if_icmp .ne 6, 29, 0, 0, []), (53, .bipush (-2), 0, 0, (-2), []), (55, .ireturn, 0, 0, 0, []), (56, .iconst 0, 0, 0, 0, []), (57, .istore 4, 0, 0, 0, []), (59, .iload 4, 0, 0, 0, []), (61, .aload_n 0, 0, 0, 0, []), (62, .getfield 12, 0, 0, 0, []), (65, .getfield 68, 1, 2, 0, []), (68, .if_icmp .ge 58, 64, 0, 0, []), (71, .aload_n 0, 0, 0, 0, []), (72, .getfield 12, 0, 0, 0, []), (75, .getfield 170, 1, 5, 0, []), (78, .aload_n 0, 0, 0, 0, []), (79, .getfield 12, 0, 0, 0, []), (82, .getfield 150, 1, 6, 0, []), (85, .iload 4, 0, 0, 0, []), (87, .iaload, 0, 0, 0, []), (88, .aaload, 0, 0, 0, []), (89, .getfield 174, 6, 1, 0, []), (92, .istore 5, 0, 0, 0, []), (94, .aload_n 0, 0, 0, 0, []), (95, .iload_n 1, 0, 0, 0, []), (96, .iload_n 2, 0, 0, 0, []), (97, .iload 5, 0, 0, 0, []), (99, .invokevirtual 166, 29, 3, 0, []), (102, .istore 6, 0, 0, 0, []), (104, .iload 6, 0, 0, 0, []), (106, .ifCond .lt 14, 62, 0, 0, []), (109, .iload 6, 0, 0, 0, []), (111, .iload_n 3, 0, 0, 0, []), (112, .iload_n 3, 0, 0, 0, []), (113, .imul, 0, 0, 0, []), (114, .if_icmp .gt 6, 62, 0, 0, []), (117, .iload 5, 0, 0, 0, []), (119, .ireturn, 0, 0, 0, []), (120, .iinc 4 1, 0, 0, 1, []), (123, .goto (-64), 31, 0, 0, []), (126, .iconst (-1), 0, 0, (-1), []), (127, .ireturn, 0, 0, 0, [])]
-- 21 WhoIsWho.pairs(II)I
def am_c21 : List am_E := [(0, .aload_n 0, 0, 0, 0, []), (1, .getfield 12, 0, 0, 0, []), (4, .iload_n 1, 0, 0, 0, []), (5, .invokevirtual 36, 32, 1, 0, []), (8, .ifCond .eq 14, 10, 0, 0, []), (11, .aload_n 0, 0, 0, 0, []), (12, .getfield 12, 0, 0, 0, []), (15, .iload_n 2, 0, 0, 0, []), (16, .invokevirtual 36, 32, 1, 0, []), (19, .ifCond .ne 5, 12, 0, 0, []), (22, .iconst (-1), 0, 0, (-1), []), (23, .ireturn, 0, 0, 0, []), (24, .iload_n 1, 0, 0, 0, []), (25, .iload_n 2, 0, 0, 0, []), (26, .if_icmp .ne 6, 17, 0, 0, []), (29, .bipush (-2), 0, 0, (-2), []), (31, .ireturn, 0, 0, 0, []), (32, .aload_n 0, 0, 0, 0, []), (33, .getfield 28, 0, 2, 0, []), (36, .aload_n 0, 0, 0, 0, []), (37, .getfield 12, 0, 0, 0, []), (40, .iload_n 1, 0, 0, 0, []), (41, .iload_n 2, 0, 0, 0, []), (42, .invokevirtual 177, 58, 3, 0, []), (45, .aload_n 0, 0, 0, 0, []), (46, .getfield 28, 0, 2, 0, []), (49, .getfield 181, 5, 0, 0, []), (52, .ireturn, 0, 0, 0, [])]
-- 22 WhoIsWho.level(III)I
def am_c22 : List am_E := [(0, .aload_n 0, 0, 0, 0, []), (1, .getfield 12, 0, 0, 0, []), (4, .iload_n 1, 0, 0, 0, []), (5, .invokevirtual 36, 32, 1, 0, []), (8, .ifCond .eq 28, 18, 0, 0, []), (11, .aload_n 0, 0, 0, 0, []), (12, .getfield 12, 0, 0, 0, []), (15, .iload_n 2, 0, 0, 0, []), (16, .invokevirtual 36, 32, 1, 0, []), (19, .ifCond .eq 17, 18, 0, 0, []), (22, .iload_n 1, 0, 0, 0, []), (23, .iload_n 2, 0, 0, 0, []), (24, .if_icmp .eq 12, 18, 0, 0, []), (27, .iload_n 3, 0, 0, 0, []), (28, .iconst 0, 0, 0, 0, []), (29, .iconst 1, 0, 0, 1, []), (30, .invokestatic 40, 25, 3, 0, []), (33, .ifCond .ne 6, 20, 0, 0, []), (36, .ldc 113, 0, 0, (-2147483648), []), (38, .ireturn, 0, 0, 0, []), (39, .aload_n 0, 0, 0, 0, []), (40, .getfield 28, 0, 2, 0, []), (43, .aload_n 0, 0, 0, 0, []), (44, .getfield 12, 0, 0, 0, []), (47, .iload_n 1, 0, 0, 0, []), (48, .iload_n 2, 0, 0, 0, []), (49, .invokevirtual 177, 58, 3, 0, []), (52, .iload_n 3, 0, 0, 0, []), (53, .ifCond .ne 13, 33, 0, 0, []), (56, .aload_n 0, 0, 0, 0, []), (57, .getfield 28, 0, 2, 0, []), (60, .invokevirtual 184, 60, 0, 0, []), (63, .goto 10, 36, 0, 0, []), (66, .aload_n 0, 0, 0, 0, []), (67, .getfield 28, 0, 2, 0, []), (70, .invokevirtual 187, 61, 0, 0, []), (73, .ireturn, 0, 0, 0, [])]
-- 23 WhoIsWho.right(II)I
def am_c23 : List am_E := [(0, .aload_n 0, 0, 0, 0, []), (1, .getfield 12, 0, 0, 0, []), (4, .iload_n 1, 0, 0, 0, []), (5, .invokevirtual 36, 32, 1, 0, []), (8, .ifCond .eq 14, 10, 0, 0, []), (11, .aload_n 0, 0, 0, 0, []), (12, .getfield 12, 0, 0, 0, []), (15, .iload_n 2, 0, 0, 0, []), (16, .invokevirtual 36, 32, 1, 0, []), (19, .ifCond .ne 5, 12, 0, 0, []), (22, .iconst (-1), 0, 0, (-1), []), (23, .ireturn, 0, 0, 0, []), (24, .iload_n 1, 0, 0, 0, []), (25, .iload_n 2, 0, 0, 0, []), (26, .if_icmp .ne 6, 17, 0, 0, []), (29, .bipush (-2), 0, 0, (-2), []), (31, .ireturn, 0, 0, 0, []), (32, .aload_n 0, 0, 0, 0, []), (33, .getfield 28, 0, 2, 0, []), (36, .aload_n 0, 0, 0, 0, []), (37, .getfield 12, 0, 0, 0, []), (40, .iload_n 1, 0, 0, 0, []), (41, .iload_n 2, 0, 0, 0, []), (42, .invokevirtual 177, 58, 3, 0, []), (45, .aload_n 0, 0, 0, 0, []), (46, .getfield 28, 0, 2, 0, []), (49, .getfield 181, 5, 0, 0, []), (52, .ifCond .ne 6, 30, 0, 0, []), (55, .bipush (-3), 0, 0, (-3), []), (57, .ireturn, 0, 0, 0, []), (58, .aload_n 0, 0, 0, 0, []), (59, .getfield 12, 0, 0, 0, []), (62, .getfield 44, 1, 3, 0, []), (65, .iload_n 1, 0, 0, 0, []), (66, .iaload, 0, 0, 0, []), (67, .aload_n 0, 0, 0, 0, []), (68, .getfield 28, 0, 2, 0, []), (71, .invokevirtual 184, 60, 0, 0, []), (74, .isub, 0, 0, 0, []), (75, .invokestatic 190, 26, 1, 0, []), (78, .istore_n 3, 0, 0, 0, []), (79, .aload_n 0, 0, 0, 0, []), (80, .getfield 12, 0, 0, 0, []), (83, .getfield 48, 1, 4, 0, []), (86, .iload_n 1, 0, 0, 0, []), (87, .iaload, 0, 0, 0, []), (88, .aload_n 0, 0, 0, 0, []), (89, .getfield 28, 0, 2, 0, []), (92, .invokevirtual 187, 61, 0, 0, []), (95, .isub, 0, 0, 0, []), (96, .invokestatic 190, 26, 1, 0, []), (99, .istore 4, 0, 0, 0, []), (101, .iload_n 3, 0, 0, 0, []), (102, .aload_n 0, 0, 0, 0, []), (103, .getfield 12, 0, 0, 0, []), (106, .getfield 44, 1, 3, 0, []), (109, .iload_n 2, 0, 0, 0, []), (110, .iaload, 0, 0, 0, []), (111, .if_icmp .eq 7, 61, 0, 0, []), (114, .iconst 1, 0, 0, 1, []), (115, .goto 4, 62, 0, 0, []), (118, .iconst 0, 0, 0, 0, []), (119, .iload 4, 0, 0, 0, []), (121, .aload_n 0, 0, 0, 0, []), (122, .getfield 12, 0, 0, 0, []), (125, .getfield 48, 1, 4, 0, []), (128, .iload_n 2, 0, 0, 0, []), (129, .iaload, 0, 0, 0, []), (130, .if_icmp .eq 7, 71, 0, 0, []), (133, .iconst 1, 0, 0, 1, []), (134, .goto 4, 72, 0, 0, []), (137, .iconst 0, 0, 0, 0, []), (138, .iadd, 0, 0, 0, []), (139, .istore 5, 0, 0, 0, []), (141, .aload_n 0, 0, 0, 0, []), (142, .getfield 12, 0, 0, 0, []), (145, .getfield 44, 1, 3, 0, []), (148, .iload_n 2, 0, 0, 0, []), (149, .iload_n 3, 0, 0, 0, []), (150, .iastore, 0, 0, 0, []), (151, .aload_n 0, 0, 0, 0, []), (152, .getfield 12, 0, 0, 0, []), (155, .getfield 48, 1, 4, 0, []), (158, .iload_n 2, 0, 0, 0, []), (159, .iload 4, 0, 0, 0, []), (161, .iastore, 0, 0, 0, []), (162, .aload_n 0, 0, 0, 0, []), (163, .getfield 12, 0, 0, 0, []), (166, .iconst 1, 0, 0, 1, []), (167, .putfield 51, 1, 0, 0, []), (170, .iload 5, 0, 0, 0, []), (172, .ireturn, 0, 0, 0, [])]
-- 24 WhoIsWho.count(I)I
def am_c24 : List am_E := [(0, .iload_n 1, 0, 0, 0, []), (1, .tableswitch 84 0 5 #[39, 47, 55, 66, 74, 79], 25, 0, 0, [2, 6, 10, 15, 19, 22]), (40, .aload_n 0, 0, 0, 0, []), (41, .getfield 12, 0, 0, 0, []), (44, .getfield 32, 1, 1, 0, []), (47, .ireturn, 0, 0, 0, []), (48, .aload_n 0, 0, 0, 0, []), (49, .getfield 12, 0, 0, 0, []), (52, .getfield 68, 1, 2, 0, []), (55, .ireturn, 0, 0, 0, []), (56, .aload_n 0, 0, 0, 0, []), (57, .getfield 12, 0, 0, 0, []), (60, .invokevirtual 55, 35, 0, 0, []), (63, .getfield 59, 6, 2, 0, []), (66, .ireturn, 0, 0, 0, []), (67, .aload_n 0, 0, 0, 0, []), (68, .getfield 12, 0, 0, 0, []), (71, .invokevirtual 193, 41, 0, 0, []), (74, .ireturn, 0, 0, 0, []), (75, .aload_n 0, 0, 0, 0, []), (76, .invokevirtual 196, 30, 0, 0, []), (79, .ireturn, 0, 0, 0, []), (80, .aload_n 0, 0, 0, 0, []), (81, .invokevirtual 199, 31, 0, 0, []), (84, .ireturn, 0, 0, 0, []), (85, .iconst (-1), 0, 0, (-1), []), (86, .ireturn, 0, 0, 0, [])]
-- 25 WhoIsWho.within(III)Z
def am_c25 : List am_E := [(0, .iload_n 0, 0, 0, 0, []), (1, .iload_n 1, 0, 0, 0, []), (2, .if_icmp .lt 12, 8, 0, 0, []), (5, .iload_n 0, 0, 0, 0, []), (6, .iload_n 2, 0, 0, 0, []), (7, .if_icmp .gt 7, 8, 0, 0, []), (10, .iconst 1, 0, 0, 1, []), (11, .goto 4, 9, 0, 0, []), (14, .iconst 0, 0, 0, 0, []), (15, .ireturn, 1, 0, 0, [])]
-- 26 WhoIsWho.keptWithin(I)I
def am_c26 : List am_E := [(0, .bipush (-50), 0, 0, (-50), []), (2, .bipush 50, 0, 0, 50, []), (4, .iload_n 0, 0, 0, 0, []), (5, .invokestatic 202, 136, 2, 0, []), (8, .invokestatic 207, 135, 2, 0, []), (11, .ireturn, 0, 0, 0, [])]
-- 27 WhoIsWho.dotOfTrack(II)I
def am_c27 : List am_E := [(0, .iconst 0, 0, 0, 0, []), (1, .istore_n 3, 0, 0, 0, []), (2, .iload_n 3, 0, 0, 0, []), (3, .aload_n 0, 0, 0, 0, []), (4, .getfield 12, 0, 0, 0, []), (7, .getfield 170, 1, 5, 0, []), (10, .iload_n 1, 0, 0, 0, []), (11, .aaload, 0, 0, 0, []), (12, .getfield 59, 6, 2, 0, []), (15, .if_icmp .ge 29, 24, 0, 0, []), (18, .aload_n 0, 0, 0, 0, []), (19, .getfield 21, 0, 1, 0, []), (22, .getfield 104, 2, 0, 0, []), (25, .iconst 0, 0, 0, 0, []), (26, .aaload, 0, 0, 0, []), (27, .iload_n 1, 0, 0, 0, []), (28, .iload_n 3, 0, 0, 0, []), (29, .invokevirtual 134, 66, 2, 0, []), (32, .iload_n 2, 0, 0, 0, []), (33, .if_icmp .ne 5, 22, 0, 0, []), (36, .iload_n 3, 0, 0, 0, []), (37, .ireturn, 0, 0, 0, []), (38, .iinc 3 1, 0, 0, 1, []), (41, .goto (-39), 2, 0, 0, []), (44, .iconst (-1), 0, 0, (-1), []), (45, .ireturn, 0, 0, 0, [])]
-- 28 WhoIsWho.latestDot(II)I
def am_c28 : List am_E := [(0, .iconst (-1), 0, 0, (-1), []), (1, .istore_n 3, 0, 0, 0, []), (2, .iconst 0, 0, 0, 0, []), (3, .istore 4, 0, 0, 0, []), (5, .iload 4, 0, 0, 0, []), (7, .aload_n 0, 0, 0, 0, []), (8, .getfield 12, 0, 0, 0, []), (11, .getfield 68, 1, 2, 0, []), (14, .if_icmp .ge 63, 39, 0, 0, []), (17, .aload_n 0, 0, 0, 0, []), (18, .getfield 12, 0, 0, 0, []), (21, .getfield 150, 1, 6, 0, []), (24, .iload 4, 0, 0, 0, []), (26, .iaload, 0, 0, 0, []), (27, .istore 5, 0, 0, 0, []), (29, .aload_n 0, 0, 0, 0, []), (30, .getfield 12, 0, 0, 0, []), (33, .getfield 170, 1, 5, 0, []), (36, .iload 5, 0, 0, 0, []), (38, .aaload, 0, 0, 0, []), (39, .getfield 174, 6, 1, 0, []), (42, .iload_n 2, 0, 0, 0, []), (43, .if_icmp .le 6, 24, 0, 0, []), (46, .goto 31, 39, 0, 0, []), (49, .aload_n 0, 0, 0, 0, []), (50, .iload 5, 0, 0, 0, []), (52, .iload_n 1, 0, 0, 0, []), (53, .invokevirtual 163, 27, 2, 0, []), (56, .istore 6, 0, 0, 0, []), (58, .iload 6, 0, 0, 0, []), (60, .ifCond .lt 11, 37, 0, 0, []), (63, .iconst 4, 0, 0, 4, []), (64, .iload 5, 0, 0, 0, []), (66, .imul, 0, 0, 0, []), (67, .iload 6, 0, 0, 0, []), (69, .iadd, 0, 0, 0, []), (70, .istore_n 3, 0, 0, 0, []), (71, .iinc 4 1, 0, 0, 1, []), (74, .goto (-69), 4, 0, 0, []), (77, .iload_n 3, 0, 0, 0, []), (78, .ireturn, 0, 0, 0, [])]
-- 29 WhoIsWho.squareApart(III)I
def am_c29 : List am_E := [(0, .aload_n 0, 0, 0, 0, []), (1, .iload_n 1, 0, 0, 0, []), (2, .iload_n 3, 0, 0, 0, []), (3, .invokevirtual 210, 28, 2, 0, []), (6, .istore 4, 0, 0, 0, []), (8, .aload_n 0, 0, 0, 0, []), (9, .iload_n 2, 0, 0, 0, []), (10, .iload_n 3, 0, 0, 0, []), (11, .invokevirtual 210, 28, 2, 0, []), (14, .istore 5, 0, 0, 0, []), (16, .iload 4, 0, 0, 0, []), (18, .ifCond .lt 8, 14, 0, 0, []), (21, .iload 5, 0, 0, 0, []), (23, .ifCond .ge 5, 16, 0, 0, []), (26, .iconst (-1), 0, 0, (-1), []), (27, .ireturn, 0, 0, 0, []), (28, .aload_n 0, 0, 0, 0, []), (29, .getfield 12, 0, 0, 0, []), (32, .iload 4, 0, 0, 0, []), (34, .iconst 4, 0, 0, 4, []), (35, .idiv, 0, 0, 0, []), (36, .iload 4, 0, 0, 0, []), (38, .iconst 4, 0, 0, 4, []), (39, .irem, 0, 0, 0, []), (40, .invokevirtual 213, 39, 2, 0, []), (43, .aload_n 0, 0, 0, 0, []), (44, .getfield 12, 0, 0, 0, []), (47, .iload 5, 0, 0, 0, []), (49, .iconst 4, 0, 0, 4, []), (50, .idiv, 0, 0, 0, []), (51, .iload 5, 0, 0, 0, []), (53, .iconst 4, 0, 0, 4, []), (54, .irem, 0, 0, 0, []), (55, .invokevirtual 213, 39, 2, 0, []), (58, .isub, 0, 0, 0, []), (59, .istore 6, 0, 0, 0, []), (61, .aload_n 0, 0, 0, 0, []), (62, .getfield 12, 0, 0, 0, []), (65, .iload 4, 0, 0, 0, []), (67, .iconst 4, 0, 0, 4, []), (68, .idiv, 0, 0, 0, []), (69, .iload 4, 0, 0, 0, []), (71, .iconst 4, 0, 0, 4, []), (72, .irem, 0, 0, 0, []), (73, .invokevirtual 216, 40, 2, 0, []), (76, .aload_n 0, 0, 0, 0, []), (77, .getfield 12, 0, 0, 0, []), (80, .iload 5, 0, 0, 0, []), (82, .iconst 4, 0, 0, 4, []), (83, .idiv, 0, 0, 0, []), (84, .iload 5, 0, 0, 0, []), (86, .iconst 4, 0, 0, 4, []), (87, .irem, 0, 0, 0, []), (88, .invokevirtual 216, 40, 2, 0, []), (91, .isub, 0, 0, 0, []), (92, .istore 7, 0, 0, 0, []), (94, .iload 6, 0, 0, 0, []), (96, .iload 6, 0, 0, 0, []), (98, .imul, 0, 0, 0, []), (99, .iload 7, 0, 0, 0, []), (101, .iload 7, 0, 0, 0, []), (103, .imul, 0, 0, 0, []), (104, .iadd, 0, 0, 0, []), (105, .ireturn, 0, 0, 0, [])]
-- 30 WhoIsWho.countFalse()I
def am_c30 : List am_E := [(0, .aload_n 0, 0, 0, 0, []), (1, .getfield 21, 0, 1, 0, []), (4, .aload_n 0, 0, 0, 0, []), (5, .getfield 12, 0, 0, 0, []), (8, .invokevirtual 94, 42, 1, 0, []), (11, .iconst 0, 0, 0, 0, []), (12, .istore_n 1, 0, 0, 0, []), (13, .iconst 0, 0, 0, 0, []), (14, .istore_n 2, 0, 0, 0, []), (15, .iload_n 2, 0, 0, 0, []), (16, .aload_n 0, 0, 0, 0, []), (17, .getfield 12, 0, 0, 0, []), (20, .getfield 68, 1, 2, 0, []), (23, .if_icmp .ge 59, 44, 0, 0, []), (26, .iconst 0, 0, 0, 0, []), (27, .istore_n 3, 0, 0, 0, []), (28, .iload_n 3, 0, 0, 0, []), (29, .aload_n 0, 0, 0, 0, []), (30, .getfield 12, 0, 0, 0, []), (33, .getfield 170, 1, 5, 0, []), (36, .iload_n 2, 0, 0, 0, []), (37, .aaload, 0, 0, 0, []), (38, .getfield 59, 6, 2, 0, []), (41, .if_icmp .ge 35, 42, 0, 0, []), (44, .iload_n 1, 0, 0, 0, []), (45, .aload_n 0, 0, 0, 0, []), (46, .getfield 21, 0, 1, 0, []), (49, .getfield 104, 2, 0, 0, []), (52, .iconst 0, 0, 0, 0, []), (53, .aaload, 0, 0, 0, []), (54, .iload_n 2, 0, 0, 0, []), (55, .iload_n 3, 0, 0, 0, []), (56, .invokevirtual 134, 66, 2, 0, []), (59, .iconst (-1), 0, 0, (-1), []), (60, .if_icmp .ne 7, 37, 0, 0, []), (63, .iconst 1, 0, 0, 1, []), (64, .goto 4, 38, 0, 0, []), (67, .iconst 0, 0, 0, 0, []), (68, .iadd, 0, 0, 0, []), (69, .istore_n 1, 0, 0, 0, []), (70, .iinc 3 1, 0, 0, 1, []), (73, .goto (-45), 16, 0, 0, []), (76, .iinc 2 1, 0, 0, 1, []), (79, .goto (-64), 9, 0, 0, []), (82, .iload_n 1, 0, 0, 0, []), (83, .ireturn, 0, 0, 0, [])]
-- 31 WhoIsWho.countUnsure()I
def am_c31 : List am_E := [(0, .aload_n 0, 0, 0, 0, []), (1, .getfield 21, 0, 1, 0, []), (4, .aload_n 0, 0, 0, 0, []), (5, .getfield 12, 0, 0, 0, []), (8, .invokevirtual 94, 42, 1, 0, []), (11, .iconst 0, 0, 0, 0, []), (12, .istore_n 1, 0, 0, 0, []), (13, .iconst 0, 0, 0, 0, []), (14, .istore_n 2, 0, 0, 0, []), (15, .iload_n 2, 0, 0, 0, []), (16, .aload_n 0, 0, 0, 0, []), (17, .getfield 12, 0, 0, 0, []), (20, .getfield 68, 1, 2, 0, []), (23, .if_icmp .ge 53, 40, 0, 0, []), (26, .iconst 0, 0, 0, 0, []), (27, .istore_n 3, 0, 0, 0, []), (28, .iload_n 3, 0, 0, 0, []), (29, .aload_n 0, 0, 0, 0, []), (30, .getfield 12, 0, 0, 0, []), (33, .getfield 170, 1, 5, 0, []), (36, .iload_n 2, 0, 0, 0, []), (37, .aaload, 0, 0, 0, []), (38, .getfield 59, 6, 2, 0, []), (41, .if_icmp .ge 29, 38, 0, 0, []), (44, .iload_n 1, 0, 0, 0, []), (45, .aload_n 0, 0, 0, 0, []), (46, .getfield 21, 0, 1, 0, []), (49, .iload_n 2, 0, 0, 0, []), (50, .iload_n 3, 0, 0, 0, []), (51, .invokevirtual 156, 47, 2, 0, []), (54, .ifCond .eq 7, 33, 0, 0, []), (57, .iconst 0, 0, 0, 0, []), (58, .goto 4, 34, 0, 0, []), (61, .iconst 1, 0, 0, 1, []), (62, .iadd, 0, 0, 0, []), (63, .istore_n 1, 0, 0, 0, []), (64, .iinc 3 1, 0, 0, 1, []), (67, .goto (-39), 16, 0, 0, []), (70, .iinc 2 1, 0, 0, 1, []), (73, .goto (-58), 9, 0, 0, []), (76, .iload_n 1, 0, 0, 0, []), (77, .ireturn, 0, 0, 0, [])]
-- 32 WhoIsWho$Told.isWatcher(I)Z
def am_c32 : List am_E := [(0, .iload_n 1, 0, 0, 0, []), (1, .ifCond .lt 15, 8, 0, 0, []), (4, .iload_n 1, 0, 0, 0, []), (5, .aload_n 0, 0, 0, 0, []), (6, .getfield 43, 1, 1, 0, []), (9, .if_icmp .ge 7, 8, 0, 0, []), (12, .iconst 1, 0, 0, 1, []), (13, .goto 4, 9, 0, 0, []), (16, .iconst 0, 0, 0, 0, []), (17, .ireturn, 1, 0, 0, [])]
-- 33 WhoIsWho$Told.isScan(I)Z
def am_c33 : List am_E := [(0, .iload_n 1, 0, 0, 0, []), (1, .ifCond .lt 15, 8, 0, 0, []), (4, .iload_n 1, 0, 0, 0, []), (5, .aload_n 0, 0, 0, 0, []), (6, .getfield 47, 1, 2, 0, []), (9, .if_icmp .ge 7, 8, 0, 0, []), (12, .iconst 1, 0, 0, 1, []), (13, .goto 4, 9, 0, 0, []), (16, .iconst 0, 0, 0, 0, []), (17, .ireturn, 1, 0, 0, [])]
-- 34 WhoIsWho$Told.isDot(II)Z
def am_c34 : List am_E := [(0, .aload_n 0, 0, 0, 0, []), (1, .iload_n 1, 0, 0, 0, []), (2, .invokevirtual 50, 33, 1, 0, []), (5, .ifCond .eq 24, 15, 0, 0, []), (8, .iload_n 2, 0, 0, 0, []), (9, .ifCond .lt 20, 15, 0, 0, []), (12, .iload_n 2, 0, 0, 0, []), (13, .aload_n 0, 0, 0, 0, []), (14, .getfield 20, 1, 5, 0, []), (17, .iload_n 1, 0, 0, 0, []), (18, .aaload, 0, 0, 0, []), (19, .getfield 54, 6, 2, 0, []), (22, .if_icmp .ge 7, 15, 0, 0, []), (25, .iconst 1, 0, 0, 1, []), (26, .goto 4, 16, 0, 0, []), (29, .iconst 0, 0, 0, 0, []), (30, .ireturn, 1, 0, 0, [])]
-- 35 WhoIsWho$Told.waiting()LWhoIsWho$Scan;
def am_c35 : List am_E := [(0, .aload_n 0, 0, 0, 0, []), (1, .getfield 20, 1, 5, 0, []), (4, .aload_n 0, 0, 0, 0, []), (5, .getfield 47, 1, 2, 0, []), (8, .aaload, 0, 0, 0, []), (9, .areturn, 4, 0, 0, [])]
-- 36 WhoIsWho$Told.closeWaiting(II)V
def am_c36 : List am_E := [(0, .aload_n 0, 0, 0, 0, []), (1, .getfield 47, 1, 2, 0, []), (4, .bipush 12, 0, 0, 12, []), (6, .if_icmp .ge 52, 31, 0, 0, []), (9, .aload_n 0, 0, 0, 0, []), (10, .getfield 20, 1, 5, 0, []), (13, .aload_n 0, 0, 0, 0, []), (14, .getfield 47, 1, 2, 0, []), (17, .aaload, 0, 0, 0, []), (18, .iload_n 1, 0, 0, 0, []), (19, .putfield 57, 6, 0, 0, []), (22, .aload_n 0, 0, 0, 0, []), (23, .getfield 20, 1, 5, 0, []), (26, .aload_n 0, 0, 0, 0, []), (27, .getfield 47, 1, 2, 0, []), (30, .aaload, 0, 0, 0, []), (31, .iload_n 2, 0, 0, 0, []), (32, .putfield 60, 6, 1, 0, []), (35, .aload_n 0, 0, 0, 0, []), (36, .dup, 0, 0, 0, []), (37, .getfield 47, 1, 2, 0, []), (40, .iconst 1, 0, 0, 1, []), (41, .iadd, 0, 0, 0, []), (42, .putfield 47, 1, 2, 0, []), (45, .aload_n 0, 0, 0, 0, []), (46, .getfield 20, 1, 5, 0, []), (49, .aload_n 0, 0, 0, 0, []), (50, .getfield 47, 1, 2, 0, []), (53, .aaload, 0, 0, 0, []), (54, .iconst 0, 0, 0, 0, []), (55, .putfield 54, 6, 2, 0, []), (58, .return_, 2, 0, 0, [])]
-- 37 WhoIsWho$Told.remove(I)V
def am_c37 : List am_E := [(0, .aload_n 0, 0, 0, 0, []), (1, .iload_n 1, 0, 0, 0, []), (2, .invokevirtual 50, 33, 1, 0, []), (5, .ifCond .ne 4, 5, 0, 0, []), (8, .return_, 2, 0, 0, []), (9, .aload_n 0, 0, 0, 0, []), (10, .getfield 20, 1, 5, 0, []), (13, .iload_n 1, 0, 0, 0, []), (14, .aaload, 0, 0, 0, []), (15, .astore_n 2, 0, 0, 0, []), (16, .iload_n 1, 0, 0, 0, []), (17, .istore_n 3, 0, 0, 0, []), (18, .iload_n 3, 0, 0, 0, []), (19, .aload_n 0, 0, 0, 0, []), (20, .getfield 47, 1, 2, 0, []), (23, .if_icmp .ge 23, 28, 0, 0, []), (26, .aload_n 0, 0, 0, 0, []), (27, .getfield 20, 1, 5, 0, []), (30, .iload_n 3, 0, 0, 0, []), (31, .aload_n 0, 0, 0, 0, []), (32, .getfield 20, 1, 5, 0, []), (35, .iload_n 3, 0, 0, 0, []), (36, .iconst 1, 0, 0, 1, []), (37, .iadd, 0, 0, 0, []), (38, .aaload, 0, 0, 0, []), (39, .aastore, 0, 0, 0, []), (40, .iinc 3 1, 0, 0, 1, []), (43, .goto (-25), 12, 0, 0, []), (46, .aload_n 0, 0, 0, 0, []), (47, .getfield 20, 1, 5, 0, []), (50, .aload_n 0, 0, 0, 0, []), (51, .getfield 47, 1, 2, 0, []), (54, .aload_n 2, 0, 0, 0, []), (55, .aastore, 0, 0, 0, []), (56, .aload_n 0, 0, 0, 0, []), (57, .dup, 0, 0, 0, []), (58, .getfield 47, 1, 2, 0, []), (61, .iconst 1, 0, 0, 1, []), (62, .isub, 0, 0, 0, []), (63, .putfield 47, 1, 2, 0, []), (66, .return_, 2, 0, 0, [])]
-- 38 WhoIsWho$Told.sortOrder()V
def am_c38 : List am_E := [(0, .iconst 0, 0, 0, 0, []), (1, .istore_n 1, 0, 0, 0, []), (2, .iload_n 1, 0, 0, 0, []), (3, .aload_n 0, 0, 0, 0, []), (4, .getfield 47, 1, 2, 0, []), (7, .if_icmp .ge 70, 45, 0, 0, []), (10, .iload_n 1, 0, 0, 0, []), (11, .istore_n 2, 0, 0, 0, []), (12, .iload_n 2, 0, 0, 0, []), (13, .ifCond .le 51, 38, 0, 0, []), (16, .aload_n 0, 0, 0, 0, []), (17, .getfield 20, 1, 5, 0, []), (20, .aload_n 0, 0, 0, 0, []), (21, .getfield 24, 1, 6, 0, []), (24, .iload_n 2, 0, 0, 0, []), (25, .iconst 1, 0, 0, 1, []), (26, .isub, 0, 0, 0, []), (27, .iaload, 0, 0, 0, []), (28, .aaload, 0, 0, 0, []), (29, .getfield 60, 6, 1, 0, []), (32, .aload_n 0, 0, 0, 0, []), (33, .getfield 20, 1, 5, 0, []), (36, .iload_n 1, 0, 0, 0, []), (37, .aaload, 0, 0, 0, []), (38, .getfield 60, 6, 1, 0, []), (41, .if_icmp .le 23, 38, 0, 0, []), (44, .aload_n 0, 0, 0, 0, []), (45, .getfield 24, 1, 6, 0, []), (48, .iload_n 2, 0, 0, 0, []), (49, .aload_n 0, 0, 0, 0, []), (50, .getfield 24, 1, 6, 0, []), (53, .iload_n 2, 0, 0, 0, []), (54, .iconst 1, 0, 0, 1, []), (55, .isub, 0, 0, 0, []), (56, .iaload, 0, 0, 0, []), (57, .iastore, 0, 0, 0, []), (58, .iinc 2 (-1), 0, 0, (-1), []), (61, .goto (-49), 8, 0, 0, []), (64, .aload_n 0, 0, 0, 0, []), (65, .getfield 24, 1, 6, 0, []), (68, .iload_n 2, 0, 0, 0, []), (69, .iload_n 1, 0, 0, 0, []), (70, .iastore, 0, 0, 0, []), (71, .iinc 1 1, 0, 0, 1, []), (74, .goto (-72), 2, 0, 0, []), (77, .return_, 2, 0, 0, [])]
-- 39 WhoIsWho$Told.rightX(II)I
def am_c39 : List am_E := [(0, .aload_n 0, 0, 0, 0, []), (1, .getfield 20, 1, 5, 0, []), (4, .iload_n 1, 0, 0, 0, []), (5, .aaload, 0, 0, 0, []), (6, .getfield 63, 6, 3, 0, []), (9, .iload_n 2, 0, 0, 0, []), (10, .iaload, 0, 0, 0, []), (11, .aload_n 0, 0, 0, 0, []), (12, .getfield 9, 1, 3, 0, []), (15, .aload_n 0, 0, 0, 0, []), (16, .getfield 20, 1, 5, 0, []), (19, .iload_n 1, 0, 0, 0, []), (20, .aaload, 0, 0, 0, []), (21, .getfield 57, 6, 0, 0, []), (24, .iaload, 0, 0, 0, []), (25, .iadd, 0, 0, 0, []), (26, .ireturn, 0, 0, 0, [])]
-- 40 WhoIsWho$Told.rightY(II)I
def am_c40 : List am_E := [(0, .aload_n 0, 0, 0, 0, []), (1, .getfield 20, 1, 5, 0, []), (4, .iload_n 1, 0, 0, 0, []), (5, .aaload, 0, 0, 0, []), (6, .getfield 66, 6, 4, 0, []), (9, .iload_n 2, 0, 0, 0, []), (10, .iaload, 0, 0, 0, []), (11, .aload_n 0, 0, 0, 0, []), (12, .getfield 15, 1, 4, 0, []), (15, .aload_n 0, 0, 0, 0, []), (16, .getfield 20, 1, 5, 0, []), (19, .iload_n 1, 0, 0, 0, []), (20, .aaload, 0, 0, 0, []), (21, .getfield 57, 6, 0, 0, []), (24, .iaload, 0, 0, 0, []), (25, .iadd, 0, 0, 0, []), (26, .ireturn, 0, 0, 0, [])]
-- 41 WhoIsWho$Told.countDots()I
def am_c41 : List am_E := [(0, .iconst 0, 0, 0, 0, []), (1, .istore_n 1, 0, 0, 0, []), (2, .iconst 0, 0, 0, 0, []), (3, .istore_n 2, 0, 0, 0, []), (4, .iload_n 2, 0, 0, 0, []), (5, .aload_n 0, 0, 0, 0, []), (6, .getfield 47, 1, 2, 0, []), (9, .if_icmp .ge 21, 18, 0, 0, []), (12, .iload_n 1, 0, 0, 0, []), (13, .aload_n 0, 0, 0, 0, []), (14, .getfield 20, 1, 5, 0, []), (17, .iload_n 2, 0, 0, 0, []), (18, .aaload, 0, 0, 0, []), (19, .getfield 54, 6, 2, 0, []), (22, .iadd, 0, 0, 0, []), (23, .istore_n 1, 0, 0, 0, []), (24, .iinc 2 1, 0, 0, 1, []), (27, .goto (-23), 4, 0, 0, []), (30, .iload_n 1, 0, 0, 0, []), (31, .ireturn, 0, 0, 0, [])]
-- 42 WhoIsWho$Keeper.refresh(LWhoIsWho$Told;)V
def am_c42 : List am_E := [(0, .aload_n 1, 0, 0, 0, []), (1, .getfield 32, 1, 0, 0, []), (4, .ifCond .ne 4, 4, 0, 0, []), (7, .return_, 2, 0, 0, []), (8, .aload_n 1, 0, 0, 0, []), (9, .iconst 0, 0, 0, 0, []), (10, .putfield 32, 1, 0, 0, []), (13, .aload_n 1, 0, 0, 0, []), (14, .invokevirtual 38, 38, 0, 0, []), (17, .aload_n 0, 0, 0, 0, []), (18, .getfield 23, 2, 3, 0, []), (21, .aload_n 1, 0, 0, 0, []), (22, .getfield 41, 1, 7, 0, []), (25, .invokevirtual 45, 48, 1, 0, []), (28, .aload_n 0, 0, 0, 0, []), (29, .getfield 11, 2, 0, 0, []), (32, .iconst 0, 0, 0, 0, []), (33, .aaload, 0, 0, 0, []), (34, .invokevirtual 49, 64, 0, 0, []), (37, .aload_n 0, 0, 0, 0, []), (38, .iconst 1, 0, 0, 1, []), (39, .putfield 28, 2, 1, 0, []), (42, .iconst 0, 0, 0, 0, []), (43, .istore_n 2, 0, 0, 0, []), (44, .iload_n 2, 0, 0, 0, []), (45, .aload_n 1, 0, 0, 0, []), (46, .getfield 52, 1, 2, 0, []), (49, .if_icmp .ge 20, 37, 0, 0, []), (52, .aload_n 0, 0, 0, 0, []), (53, .aload_n 1, 0, 0, 0, []), (54, .aload_n 1, 0, 0, 0, []), (55, .getfield 55, 1, 6, 0, []), (58, .iload_n 2, 0, 0, 0, []), (59, .iaload, 0, 0, 0, []), (60, .invokevirtual 58, 43, 2, 0, []), (63, .iinc 2 1, 0, 0, 1, []), (66, .goto (-22), 24, 0, 0, []), (69, .return_, 2, 0, 0, [])]
-- 43 WhoIsWho$Keeper.takeIn(LWhoIsWho$Told;I)V
def am_c43 : List am_E := [(0, .aload_n 0, 0, 0, 0, []), (1, .getfield 23, 2, 3, 0, []), (4, .getfield 62, 3, 0, 0, []), (7, .astore_n 3, 0, 0, 0, []), (8, .aload_n 3, 0, 0, 0, []), (9, .aload_n 1, 0, 0, 0, []), (10, .getfield 41, 1, 7, 0, []), (13, .iconst 5, 0, 0, 5, []), (14, .iaload, 0, 0, 0, []), (15, .invokevirtual 66, 55, 1, 0, []), (18, .iconst 0, 0, 0, 0, []), (19, .istore 4, 0, 0, 0, []), (21, .iload 4, 0, 0, 0, []), (23, .aload_n 0, 0, 0, 0, []), (24, .getfield 28, 2, 1, 0, []), (27, .if_icmp .ge 27, 28, 0, 0, []), (30, .aload_n 0, 0, 0, 0, []), (31, .getfield 23, 2, 3, 0, []), (34, .iload 4, 0, 0, 0, []), (36, .aload_n 0, 0, 0, 0, []), (37, .getfield 11, 2, 0, 0, []), (40, .iload 4, 0, 0, 0, []), (42, .aaload, 0, 0, 0, []), (43, .aload_n 1, 0, 0, 0, []), (44, .iload_n 2, 0, 0, 0, []), (45, .invokevirtual 72, 49, 4, 0, []), (48, .iinc 4 1, 0, 0, 1, []), (51, .goto (-30), 12, 0, 0, []), (54, .iconst 0, 0, 0, 0, []), (55, .istore 4, 0, 0, 0, []), (57, .iload 4, 0, 0, 0, []), (59, .aload_n 3, 0, 0, 0, []), (60, .getfield 76, 4, 0, 0, []), (63, .if_icmp .ge 52, 59, 0, 0, []), (66, .aload_n 3, 0, 0, 0, []), (67, .getfield 79, 4, 2, 0, []), (70, .iload 4, 0, 0, 0, []), (72, .aaload, 0, 0, 0, []), (73, .astore 5, 0, 0, 0, []), (75, .aload_n 0, 0, 0, 0, []), (76, .getfield 17, 2, 2, 0, []), (79, .iload 4, 0, 0, 0, []), (81, .aaload, 0, 0, 0, []), (82, .aload_n 0, 0, 0, 0, []), (83, .getfield 11, 2, 0, 0, []), (86, .aload 5, 0, 0, 0, []), (88, .getfield 83, 7, 0, 0, []), (91, .aaload, 0, 0, 0, []), (92, .invokevirtual 88, 65, 1, 0, []), (95, .aload_n 0, 0, 0, 0, []), (96, .getfield 17, 2, 2, 0, []), (99, .iload 4, 0, 0, 0, []), (101, .aaload, 0, 0, 0, []), (102, .aload 5, 0, 0, 0, []), (104, .aload_n 1, 0, 0, 0, []), (105, .iload_n 2, 0, 0, 0, []), (106, .invokevirtual 92, 71, 3, 0, []), (109, .iinc 4 1, 0, 0, 1, []), (112, .goto (-55), 30, 0, 0, []), (115, .aload_n 0, 0, 0, 0, []), (116, .getfield 11, 2, 0, 0, []), (119, .astore 4, 0, 0, 0, []), (121, .aload_n 0, 0, 0, 0, []), (122, .aload_n 0, 0, 0, 0, []), (123, .getfield 17, 2, 2, 0, []), (126, .putfield 11, 2, 0, 0, []), (129, .aload_n 0, 0, 0, 0, []), (130, .aload 4, 0, 0, 0, []), (132, .putfield 17, 2, 2, 0, []), (135, .aload_n 0, 0, 0, 0, []), (136, .aload_n 3, 0, 0, 0, []), (137, .getfield 76, 4, 0, 0, []), (140, .putfield 28, 2, 1, 0, []), (143, .return_, 2, 0, 0, [])]
-- 44 WhoIsWho$Keeper.isWorld(I)Z
def am_c44 : List am_E := [(0, .iload_n 1, 0, 0, 0, []), (1, .ifCond .lt 15, 8, 0, 0, []), (4, .iload_n 1, 0, 0, 0, []), (5, .aload_n 0, 0, 0, 0, []), (6, .getfield 28, 2, 1, 0, []), (9, .if_icmp .ge 7, 8, 0, 0, []), (12, .iconst 1, 0, 0, 1, []), (13, .goto 4, 9, 0, 0, []), (16, .iconst 0, 0, 0, 0, []), (17, .ireturn, 1, 0, 0, [])]
-- 45 WhoIsWho$Keeper.isTrack(II)Z
def am_c45 : List am_E := [(0, .aload_n 0, 0, 0, 0, []), (1, .iload_n 1, 0, 0, 0, []), (2, .invokevirtual 96, 44, 1, 0, []), (5, .ifCond .eq 24, 15, 0, 0, []), (8, .iload_n 2, 0, 0, 0, []), (9, .ifCond .lt 20, 15, 0, 0, []), (12, .iload_n 2, 0, 0, 0, []), (13, .aload_n 0, 0, 0, 0, []), (14, .getfield 11, 2, 0, 0, []), (17, .iload_n 1, 0, 0, 0, []), (18, .aaload, 0, 0, 0, []), (19, .getfield 100, 8, 1, 0, []), (22, .if_icmp .ge 7, 15, 0, 0, []), (25, .iconst 1, 0, 0, 1, []), (26, .goto 4, 16, 0, 0, []), (29, .iconst 0, 0, 0, 0, []), (30, .ireturn, 1, 0, 0, [])]
-- 46 WhoIsWho$Keeper.allMark(II)Z
def am_c46 : List am_E := [(0, .iconst 0, 0, 0, 0, []), (1, .istore_n 3, 0, 0, 0, []), (2, .iload_n 3, 0, 0, 0, []), (3, .aload_n 0, 0, 0, 0, []), (4, .getfield 28, 2, 1, 0, []), (7, .if_icmp .ge 25, 18, 0, 0, []), (10, .aload_n 0, 0, 0, 0, []), (11, .getfield 11, 2, 0, 0, []), (14, .iload_n 3, 0, 0, 0, []), (15, .aaload, 0, 0, 0, []), (16, .iload_n 1, 0, 0, 0, []), (17, .iload_n 2, 0, 0, 0, []), (18, .invokevirtual 103, 70, 2, 0, []), (21, .ifCond .ne 5, 16, 0, 0, []), (24, .iconst 0, 0, 0, 0, []), (25, .ireturn, 1, 0, 0, []), (26, .iinc 3 1, 0, 0, 1, []), (29, .goto (-27), 2, 0, 0, []), (32, .iconst 1, 0, 0, 1, []), (33, .ireturn, 1, 0, 0, [])]
-- 47 WhoIsWho$Keeper.allAgree(II)Z
def am_c47 : List am_E := [(0, .iconst 1, 0, 0, 1, []), (1, .istore_n 3, 0, 0, 0, []), (2, .iload_n 3, 0, 0, 0, []), (3, .aload_n 0, 0, 0, 0, []), (4, .getfield 28, 2, 1, 0, []), (7, .if_icmp .ge 36, 25, 0, 0, []), (10, .aload_n 0, 0, 0, 0, []), (11, .getfield 11, 2, 0, 0, []), (14, .iload_n 3, 0, 0, 0, []), (15, .aaload, 0, 0, 0, []), (16, .iload_n 1, 0, 0, 0, []), (17, .iload_n 2, 0, 0, 0, []), (18, .invokevirtual 107, 66, 2, 0, []), (21, .aload_n 0, 0, 0, 0, []), (22, .getfield 11, 2, 0, 0, []), (25, .iconst 0, 0, 0, 0, []), (26, .aaload, 0, 0, 0, []), (27, .iload_n 1, 0, 0, 0, []), (28, .iload_n 2, 0, 0, 0, []), (29, .invokevirtual 107, 66, 2, 0, []), (32, .if_icmp .eq 5, 23, 0, 0, []), (35, .iconst 0, 0, 0, 0, []), (36, .ireturn, 1, 0, 0, []), (37, .iinc 3 1, 0, 0, 1, []), (40, .goto (-38), 2, 0, 0, []), (43, .iconst 1, 0, 0, 1, []), (44, .ireturn, 1, 0, 0, [])]
-- 48 WhoIsWho$Dealer.goBy([I)V
def am_c48 : List am_E := [(0, .aload_n 0, 0, 0, 0, []), (1, .aload_n 1, 0, 0, 0, []), (2, .iconst 1, 0, 0, 1, []), (3, .iaload, 0, 0, 0, []), (4, .putfield 32, 3, 1, 0, []), (7, .aload_n 0, 0, 0, 0, []), (8, .aload_n 1, 0, 0, 0, []), (9, .iconst 2, 0, 0, 2, []), (10, .iaload, 0, 0, 0, []), (11, .putfield 36, 3, 2, 0, []), (14, .aload_n 0, 0, 0, 0, []), (15, .aload_n 1, 0, 0, 0, []), (16, .iconst 3, 0, 0, 3, []), (17, .iaload, 0, 0, 0, []), (18, .putfield 39, 3, 3, 0, []), (21, .aload_n 0, 0, 0, 0, []), (22, .aload_n 1, 0, 0, 0, []), (23, .iconst 0, 0, 0, 0, []), (24, .iaload, 0, 0, 0, []), (25, .i2l, 0, 0, 0, []), (26, .aload_n 1, 0, 0, 0, []), (27, .iconst 0, 0, 0, 0, []), (28, .iaload, 0, 0, 0, []), (29, .i2l, 0, 0, 0, []), (30, .lmul, 0, 0, 0, []), (31, .putfield 42, 3, 4, 0, []), (34, .return_, 2, 0, 0, [])]
-- 49 WhoIsWho$Dealer.deal(ILWhoIsWho$World;LWhoIsWho$Told;I)V
def am_c49 : List am_E := [(0, .aload_n 0, 0, 0, 0, []), (1, .iload_n 1, 0, 0, 0, []), (2, .putfield 46, 3, 5, 0, []), (5, .aload_n 0, 0, 0, 0, []), (6, .aload_n 2, 0, 0, 0, []), (7, .getfield 49, 8, 1, 0, []), (10, .putfield 54, 3, 6, 0, []), (13, .aload_n 0, 0, 0, 0, []), (14, .aload_n 3, 0, 0, 0, []), (15, .getfield 55, 1, 5, 0, []), (18, .iload 4, 0, 0, 0, []), (20, .aaload, 0, 0, 0, []), (21, .getfield 61, 6, 2, 0, []), (24, .putfield 66, 3, 7, 0, []), (27, .aload_n 0, 0, 0, 0, []), (28, .aload_n 2, 0, 0, 0, []), (29, .aload_n 3, 0, 0, 0, []), (30, .iload 4, 0, 0, 0, []), (32, .invokevirtual 67, 50, 3, 0, []), (35, .aload_n 0, 0, 0, 0, []), (36, .invokevirtual 71, 52, 0, 0, []), (39, .aload_n 0, 0, 0, 0, []), (40, .iconst 0, 0, 0, 0, []), (41, .aload_n 2, 0, 0, 0, []), (42, .getfield 74, 8, 0, 0, []), (45, .aload_n 2, 0, 0, 0, []), (46, .invokevirtual 77, 68, 0, 0, []), (49, .iconst 0, 0, 0, 0, []), (50, .invokestatic 81, 54, 5, 0, []), (53, .return_, 2, 0, 0, [])]
-- 50 WhoIsWho$Dealer.setTolls(LWhoIsWho$World;LWhoIsWho$Told;I)V
def am_c50 : List am_E := [(0, .aload_n 2, 0, 0, 0, []), (1, .getfield 55, 1, 5, 0, []), (4, .iload_n 3, 0, 0, 0, []), (5, .aaload, 0, 0, 0, []), (6, .astore 4, 0, 0, 0, []), (8, .iconst 0, 0, 0, 0, []), (9, .istore 5, 0, 0, 0, []), (11, .iload 5, 0, 0, 0, []), (13, .aload_n 0, 0, 0, 0, []), (14, .getfield 54, 3, 6, 0, []), (17, .if_icmp .ge 154, 86, 0, 0, []), (20, .aload_n 1, 0, 0, 0, []), (21, .getfield 85, 8, 2, 0, []), (24, .iload 5, 0, 0, 0, []), (26, .aaload, 0, 0, 0, []), (27, .astore 6, 0, 0, 0, []), (29, .aload_n 2, 0, 0, 0, []), (30, .getfield 89, 1, 8, 0, []), (33, .aload 6, 0, 0, 0, []), (35, .getfield 92, 9, 7, 0, []), (38, .iaload, 0, 0, 0, []), (39, .istore 7, 0, 0, 0, []), (41, .aload 6, 0, 0, 0, []), (43, .iload 7, 0, 0, 0, []), (45, .aload 4, 0, 0, 0, []), (47, .getfield 97, 6, 1, 0, []), (50, .invokevirtual 100, 78, 2, 0, []), (53, .istore 8, 0, 0, 0, []), (55, .aload 6, 0, 0, 0, []), (57, .iload 7, 0, 0, 0, []), (59, .aload 4, 0, 0, 0, []), (61, .getfield 97, 6, 1, 0, []), (64, .invokevirtual 104, 79, 2, 0, []), (67, .istore 9, 0, 0, 0, []), (69, .iconst 0, 0, 0, 0, []), (70, .istore 10, 0, 0, 0, []), (72, .iload 10, 0, 0, 0, []), (74, .aload_n 0, 0, 0, 0, []), (75, .getfield 66, 3, 7, 0, []), (78, .if_icmp .ge 87, 84, 0, 0, []), (81, .aload 6, 0, 0, 0, []), (83, .getfield 107, 9, 8, 0, []), (86, .ifCond .ne 23, 52, 0, 0, []), (89, .aload 6, 0, 0, 0, []), (91, .aload 4, 0, 0, 0, []), (93, .getfield 111, 6, 5, 0, []), (96, .iload 10, 0, 0, 0, []), (98, .iaload, 0, 0, 0, []), (99, .invokevirtual 113, 77, 1, 0, []), (102, .ifCond .eq 7, 52, 0, 0, []), (105, .iconst 1, 0, 0, 1, []), (106, .goto 4, 53, 0, 0, []), (109, .iconst 0, 0, 0, 0, []), (110, .istore 11, 0, 0, 0, []), (112, .aload_n 0, 0, 0, 0, []), (113, .getfield 18, 3, 8, 0, []), (116, .iconst 4, 0, 0, 4, []), (117, .iload 5, 0, 0, 0, []), (119, .imul, 0, 0, 0, []), (120, .iload 10, 0, 0, 0, []), (122, .iadd, 0, 0, 0, []), (123, .iload 11, 0, 0, 0, []), (125, .ifCond .eq 32, 80, 0, 0, []), (128, .aload_n 0, 0, 0, 0, []), (129, .aload_n 2, 0, 0, 0, []), (130, .iload_n 3, 0, 0, 0, []), (131, .iload 10, 0, 0, 0, []), (133, .invokevirtual 117, 39, 2, 0, []), (136, .iload 8, 0, 0, 0, []), (138, .isub, 0, 0, 0, []), (139, .i2l, 0, 0, 0, []), (140, .aload_n 2, 0, 0, 0, []), (141, .iload_n 3, 0, 0, 0, []), (142, .iload 10, 0, 0, 0, []), (144, .invokevirtual 120, 40, 2, 0, []), (147, .iload 9, 0, 0, 0, []), (149, .isub, 0, 0, 0, []), (150, .i2l, 0, 0, 0, []), (151, .invokevirtual 123, 51, 2, 0, []), (154, .goto 4, 81, 0, 0, []), (157, .iconst (-1), 0, 0, (-1), []), (158, .iastore, 0, 0, 0, []), (159, .iinc 10 1, 0, 0, 1, []), (162, .goto (-90), 36, 0, 0, []), (165, .iinc 5 1, 0, 0, 1, []), (168, .goto (-157), 7, 0, 0, []), (171, .return_, 2, 0, 0, [])]
-- 51 WhoIsWho$Dealer.toll(JJ)I
def am_c51 : List am_E := [(0, .lload_n 1, 0, 0, 0, []), (1, .lload_n 1, 0, 0, 0, []), (2, .lmul, 0, 0, 0, []), (3, .lload_n 3, 0, 0, 0, []), (4, .lload_n 3, 0, 0, 0, []), (5, .lmul, 0, 0, 0, []), (6, .ladd, 0, 0, 0, []), (7, .lstore 5, 0, 0, 0, []), (9, .lload 5, 0, 0, 0, []), (11, .aload_n 0, 0, 0, 0, []), (12, .getfield 42, 3, 4, 0, []), (15, .lcmp, 0, 0, 0, []), (16, .ifCond .gt 9, 16, 0, 0, []), (19, .lload 5, 0, 0, 0, []), (21, .l2i, 0, 0, 0, []), (22, .goto 4, 17, 0, 0, []), (25, .iconst (-1), 0, 0, (-1), []), (26, .ireturn, 0, 0, 0, [])]
-- 52 WhoIsWho$Dealer.setLeast()V
def am_c52 : List am_E := [(0, .aload_n 0, 0, 0, 0, []), (1, .getfield 22, 3, 9, 0, []), (4, .aload_n 0, 0, 0, 0, []), (5, .getfield 66, 3, 7, 0, []), (8, .iconst 0, 0, 0, 0, []), (9, .iastore, 0, 0, 0, []), (10, .aload_n 0, 0, 0, 0, []), (11, .getfield 66, 3, 7, 0, []), (14, .iconst 1, 0, 0, 1, []), (15, .isub, 0, 0, 0, []), (16, .istore_n 1, 0, 0, 0, []), (17, .iload_n 1, 0, 0, 0, []), (18, .ifCond .lt 78, 57, 0, 0, []), (21, .aload_n 0, 0, 0, 0, []), (22, .getfield 36, 3, 2, 0, []), (25, .aload_n 0, 0, 0, 0, []), (26, .getfield 39, 3, 3, 0, []), (29, .invokestatic 127, 136, 2, 0, []), (32, .istore_n 2, 0, 0, 0, []), (33, .iconst 0, 0, 0, 0, []), (34, .istore_n 3, 0, 0, 0, []), (35, .iload_n 3, 0, 0, 0, []), (36, .aload_n 0, 0, 0, 0, []), (37, .getfield 54, 3, 6, 0, []), (40, .if_icmp .ge 34, 43, 0, 0, []), (43, .aload_n 0, 0, 0, 0, []), (44, .getfield 18, 3, 8, 0, []), (47, .iconst 4, 0, 0, 4, []), (48, .iload_n 3, 0, 0, 0, []), (49, .imul, 0, 0, 0, []), (50, .iload_n 1, 0, 0, 0, []), (51, .iadd, 0, 0, 0, []), (52, .iaload, 0, 0, 0, []), (53, .istore 4, 0, 0, 0, []), (55, .iload 4, 0, 0, 0, []), (57, .iconst (-1), 0, 0, (-1), []), (58, .if_icmp .eq 10, 41, 0, 0, []), (61, .iload_n 2, 0, 0, 0, []), (62, .iload 4, 0, 0, 0, []), (64, .invokestatic 127, 136, 2, 0, []), (67, .istore_n 2, 0, 0, 0, []), (68, .iinc 3 1, 0, 0, 1, []), (71, .goto (-36), 21, 0, 0, []), (74, .aload_n 0, 0, 0, 0, []), (75, .getfield 22, 3, 9, 0, []), (78, .iload_n 1, 0, 0, 0, []), (79, .aload_n 0, 0, 0, 0, []), (80, .getfield 22, 3, 9, 0, []), (83, .iload_n 1, 0, 0, 0, []), (84, .iconst 1, 0, 0, 1, []), (85, .iadd, 0, 0, 0, []), (86, .iaload, 0, 0, 0, []), (87, .iload_n 2, 0, 0, 0, []), (88, .iadd, 0, 0, 0, []), (89, .iastore, 0, 0, 0, []), (90, .iinc 1 (-1), 0, 0, (-1), []), (93, .goto (-76), 11, 0, 0, []), (96, .return_, 2, 0, 0, [])]
-- 53 WhoIsWho$Dealer.mayServe(III)Z
def am_c53 : List am_E := [(0, .iconst 0, 0, 0, 0, []), (1, .iload_n 3, 0, 0, 0, []), (2, .aload_n 0, 0, 0, 0, []), (3, .getfield 66, 3, 7, 0, []), (6, .iload_n 1, 0, 0, 0, []), (7, .isub, 0, 0, 0, []), (8, .isub, 0, 0, 0, []), (9, .invokestatic 132, 135, 2, 0, []), (12, .istore 4, 0, 0, 0, []), (14, .aload_n 0, 0, 0, 0, []), (15, .getfield 12, 3, 0, 0, []), (18, .iload_n 2, 0, 0, 0, []), (19, .aload_n 0, 0, 0, 0, []), (20, .getfield 22, 3, 9, 0, []), (23, .iload_n 1, 0, 0, 0, []), (24, .iaload, 0, 0, 0, []), (25, .iadd, 0, 0, 0, []), (26, .iload 4, 0, 0, 0, []), (28, .aload_n 0, 0, 0, 0, []), (29, .getfield 32, 3, 1, 0, []), (32, .imul, 0, 0, 0, []), (33, .iadd, 0, 0, 0, []), (34, .invokevirtual 135, 56, 1, 0, []), (37, .ireturn, 1, 0, 0, [])]
-- 54 WhoIsWho$Dealer.dealFrom(LWhoIsWho$Dealer;IIII)V
def am_c54 : List am_E := [(0, .iload_n 1, 0, 0, 0, []), (1, .aload_n 0, 0, 0, 0, []), (2, .getfield 66, 3, 7, 0, []), (5, .if_icmp .ge 8, 7, 0, 0, []), (8, .iload_n 1, 0, 0, 0, []), (9, .iconst 4, 0, 0, 4, []), (10, .if_icmp .lt 27, 21, 0, 0, []), (13, .aload_n 0, 0, 0, 0, []), (14, .getfield 12, 3, 0, 0, []), (17, .aload_n 0, 0, 0, 0, []), (18, .getfield 46, 3, 5, 0, []), (21, .iload_n 2, 0, 0, 0, []), (22, .iload_n 3, 0, 0, 0, []), (23, .aload_n 0, 0, 0, 0, []), (24, .getfield 32, 3, 1, 0, []), (27, .imul, 0, 0, 0, []), (28, .iadd, 0, 0, 0, []), (29, .aload_n 0, 0, 0, 0, []), (30, .getfield 25, 3, 10, 0, []), (33, .invokevirtual 138, 57, 3, 0, []), (36, .return_, 2, 0, 0, []), (37, .aload_n 0, 0, 0, 0, []), (38, .iload_n 1, 0, 0, 0, []), (39, .iload_n 2, 0, 0, 0, []), (40, .iload_n 3, 0, 0, 0, []), (41, .invokevirtual 142, 53, 3, 0, []), (44, .ifCond .ne 4, 28, 0, 0, []), (47, .return_, 2, 0, 0, []), (48, .iconst 0, 0, 0, 0, []), (49, .istore 5, 0, 0, 0, []), (51, .iload 5, 0, 0, 0, []), (53, .aload_n 0, 0, 0, 0, []), (54, .getfield 54, 3, 6, 0, []), (57, .if_icmp .ge 78, 80, 0, 0, []), (60, .aload_n 0, 0, 0, 0, []), (61, .getfield 18, 3, 8, 0, []), (64, .iconst 4, 0, 0, 4, []), (65, .iload 5, 0, 0, 0, []), (67, .imul, 0, 0, 0, []), (68, .iload_n 1, 0, 0, 0, []), (69, .iadd, 0, 0, 0, []), (70, .iaload, 0, 0, 0, []), (71, .istore 6, 0, 0, 0, []), (73, .iload 6, 0, 0, 0, []), (75, .iconst (-1), 0, 0, (-1), []), (76, .if_icmp .eq 53, 78, 0, 0, []), (79, .aload_n 0, 0, 0, 0, []), (80, .getfield 28, 3, 11, 0, []), (83, .iload 5, 0, 0, 0, []), (85, .baload, 0, 0, 0, []), (86, .ifCond .ne 43, 78, 0, 0, []), (89, .aload_n 0, 0, 0, 0, []), (90, .getfield 28, 3, 11, 0, []), (93, .iload 5, 0, 0, 0, []), (95, .iconst 1, 0, 0, 1, []), (96, .bastore, 0, 0, 0, []), (97, .aload_n 0, 0, 0, 0, []), (98, .getfield 25, 3, 10, 0, []), (101, .iload_n 1, 0, 0, 0, []), (102, .iload 5, 0, 0, 0, []), (104, .iastore, 0, 0, 0, []), (105, .aload_n 0, 0, 0, 0, []), (106, .iload_n 1, 0, 0, 0, []), (107, .iconst 1, 0, 0, 1, []), (108, .iadd, 0, 0, 0, []), (109, .iload_n 2, 0, 0, 0, []), (110, .iload 6, 0, 0, 0, []), (112, .iadd, 0, 0, 0, []), (113, .iload_n 3, 0, 0, 0, []), (114, .iconst 1, 0, 0, 1, []), (115, .isub, 0, 0, 0, []), (116, .iload 4, 0, 0, 0, []), (118, .invokestatic 81, 54, 5, 0, []), (121, .aload_n 0, 0, 0, 0, []), (122, .getfield 28, 3, 11, 0, []), (125, .iload 5, 0, 0, 0, []), (127, .iconst 0, 0, 0, 0, []), (128, .bastore, 0, 0, 0, []), (129, .iinc 5 1, 0, 0, 1, []), (132, .goto (-81), 30, 0, 0, []), (135, .aload_n 0, 0, 0, 0, []), (136, .getfield 54, 3, 6, 0, []), (139, .iload 4, 0, 0, 0, []), (141, .iadd, 0, 0, 0, []), (142, .bipush 6, 0, 0, 6, []), (144, .if_icmp .ge 29, 104, 0, 0, []), (147, .aload_n 0, 0, 0, 0, []), (148, .getfield 25, 3, 10, 0, []), (151, .iload_n 1, 0, 0, 0, []), (152, .bipush 6, 0, 0, 6, []), (154, .iastore, 0, 0, 0, []), (155, .aload_n 0, 0, 0, 0, []), (156, .iload_n 1, 0, 0, 0, []), (157, .iconst 1, 0, 0, 1, []), (158, .iadd, 0, 0, 0, []), (159, .iload_n 2, 0, 0, 0, []), (160, .aload_n 0, 0, 0, 0, []), (161, .getfield 36, 3, 2, 0, []), (164, .iadd, 0, 0, 0, []), (165, .iload_n 3, 0, 0, 0, []), (166, .iload 4, 0, 0, 0, []), (168, .iconst 1, 0, 0, 1, []), (169, .iadd, 0, 0, 0, []), (170, .invokestatic 81, 54, 5, 0, []), (173, .aload_n 0, 0, 0, 0, []), (174, .getfield 25, 3, 10, 0, []), (177, .iload_n 1, 0, 0, 0, []), (178, .bipush 7, 0, 0, 7, []), (180, .iastore, 0, 0, 0, []), (181, .aload_n 0, 0, 0, 0, []), (182, .iload_n 1, 0, 0, 0, []), (183, .iconst 1, 0, 0, 1, []), (184, .iadd, 0, 0, 0, []), (185, .iload_n 2, 0, 0, 0, []), (186, .aload_n 0, 0, 0, 0, []), (187, .getfield 39, 3, 3, 0, []), (190, .iadd, 0, 0, 0, []), (191, .iload_n 3, 0, 0, 0, []), (192, .iload 4, 0, 0, 0, []), (194, .invokestatic 81, 54, 5, 0, []), (197, .return_, 2, 0, 0, [])]
-- 55 WhoIsWho$Shortlist.open(I)V
def am_c55 : List am_E := [(0, .aload_n 0, 0, 0, 0, []), (1, .iconst 0, 0, 0, 0, []), (2, .putfield 18, 4, 0, 0, []), (5, .aload_n 0, 0, 0, 0, []), (6, .iconst 1, 0, 0, 1, []), (7, .iconst 4, 0, 0, 4, []), (8, .iload_n 1, 0, 0, 0, []), (9, .invokestatic 22, 136, 2, 0, []), (12, .invokestatic 28, 135, 2, 0, []), (15, .putfield 31, 4, 1, 0, []), (18, .return_, 2, 0, 0, [])]
-- 56 WhoIsWho$Shortlist.takes(I)Z
def am_c56 : List am_E := [(0, .aload_n 0, 0, 0, 0, []), (1, .getfield 18, 4, 0, 0, []), (4, .aload_n 0, 0, 0, 0, []), (5, .getfield 31, 4, 1, 0, []), (8, .if_icmp .lt 21, 15, 0, 0, []), (11, .iload_n 1, 0, 0, 0, []), (12, .aload_n 0, 0, 0, 0, []), (13, .getfield 11, 4, 2, 0, []), (16, .aload_n 0, 0, 0, 0, []), (17, .getfield 18, 4, 0, 0, []), (20, .iconst 1, 0, 0, 1, []), (21, .isub, 0, 0, 0, []), (22, .aaload, 0, 0, 0, []), (23, .getfield 34, 7, 1, 0, []), (26, .if_icmp .ge 7, 17, 0, 0, []), (29, .iconst 1, 0, 0, 1, []), (30, .goto 4, 18, 0, 0, []), (33, .iconst 0, 0, 0, 0, []), (34, .ireturn, 1, 0, 0, [])]
-- 57 WhoIsWho$Shortlist.offer(II[I)V
def am_c57 : List am_E := [(0, .aload_n 0, 0, 0, 0, []), (1, .iload_n 2, 0, 0, 0, []), (2, .invokevirtual 37, 56, 1, 0, []), (5, .ifCond .ne 4, 5, 0, 0, []), (8, .return_, 2, 0, 0, []), (9, .aload_n 0, 0, 0, 0, []), (10, .getfield 18, 4, 0, 0, []), (13, .aload_n 0, 0, 0, 0, []), (14, .getfield 31, 4, 1, 0, []), (17, .if_icmp .ge 10, 13, 0, 0, []), (20, .aload_n 0, 0, 0, 0, []), (21, .getfield 18, 4, 0, 0, []), (24, .goto 9, 17, 0, 0, []), (27, .aload_n 0, 0, 0, 0, []), (28, .getfield 18, 4, 0, 0, []), (31, .iconst 1, 0, 0, 1, []), (32, .isub, 0, 0, 0, []), (33, .istore 4, 0, 0, 0, []), (35, .aload_n 0, 0, 0, 0, []), (36, .getfield 11, 4, 2, 0, []), (39, .iload 4, 0, 0, 0, []), (41, .aaload, 0, 0, 0, []), (42, .astore 5, 0, 0, 0, []), (44, .iload 4, 0, 0, 0, []), (46, .ifCond .le 41, 46, 0, 0, []), (49, .aload_n 0, 0, 0, 0, []), (50, .getfield 11, 4, 2, 0, []), (53, .iload 4, 0, 0, 0, []), (55, .iconst 1, 0, 0, 1, []), (56, .isub, 0, 0, 0, []), (57, .aaload, 0, 0, 0, []), (58, .getfield 34, 7, 1, 0, []), (61, .iload_n 2, 0, 0, 0, []), (62, .if_icmp .le 25, 46, 0, 0, []), (65, .aload_n 0, 0, 0, 0, []), (66, .getfield 11, 4, 2, 0, []), (69, .iload 4, 0, 0, 0, []), (71, .aload_n 0, 0, 0, 0, []), (72, .getfield 11, 4, 2, 0, []), (75, .iload 4, 0, 0, 0, []), (77, .iconst 1, 0, 0, 1, []), (78, .isub, 0, 0, 0, []), (79, .aaload, 0, 0, 0, []), (80, .aastore, 0, 0, 0, []), (81, .iinc 4 (-1), 0, 0, (-1), []), (84, .goto (-40), 23, 0, 0, []), (87, .aload_n 0, 0, 0, 0, []), (88, .getfield 11, 4, 2, 0, []), (91, .iload 4, 0, 0, 0, []), (93, .aload 5, 0, 0, 0, []), (95, .aastore, 0, 0, 0, []), (96, .aload 5, 0, 0, 0, []), (98, .iload_n 1, 0, 0, 0, []), (99, .putfield 41, 7, 0, 0, []), (102, .aload 5, 0, 0, 0, []), (104, .iload_n 2, 0, 0, 0, []), (105, .putfield 34, 7, 1, 0, []), (108, .aload_n 3, 0, 0, 0, []), (109, .iconst 0, 0, 0, 0, []), (110, .aload 5, 0, 0, 0, []), (112, .getfield 44, 7, 2, 0, []), (115, .iconst 0, 0, 0, 0, []), (116, .iconst 4, 0, 0, 4, []), (117, .invokestatic 48, 999, 5, 0, []), (120, .aload_n 0, 0, 0, 0, []), (121, .getfield 18, 4, 0, 0, []), (124, .aload_n 0, 0, 0, 0, []), (125, .getfield 31, 4, 1, 0, []), (128, .if_icmp .ge 13, 75, 0, 0, []), (131, .aload_n 0, 0, 0, 0, []), (132, .dup, 0, 0, 0, []), (133, .getfield 18, 4, 0, 0, []), (136, .iconst 1, 0, 0, 1, []), (137, .iadd, 0, 0, 0, []), (138, .putfield 18, 4, 0, 0, []), (141, .return_, 2, 0, 0, [])]
-- 58 WhoIsWho$Level.measure(LWhoIsWho$Told;II)V
def am_c58 : List am_E := [(0, .aload_n 0, 0, 0, 0, []), (1, .iconst 0, 0, 0, 0, []), (2, .putfield 9, 5, 0, 0, []), (5, .aload_n 0, 0, 0, 0, []), (6, .iconst 0, 0, 0, 0, []), (7, .putfield 15, 5, 1, 0, []), (10, .aload_n 0, 0, 0, 0, []), (11, .iconst 0, 0, 0, 0, []), (12, .putfield 18, 5, 2, 0, []), (15, .iconst 0, 0, 0, 0, []), (16, .istore 4, 0, 0, 0, []), (18, .iload 4, 0, 0, 0, []), (20, .aload_n 1, 0, 0, 0, []), (21, .getfield 21, 1, 2, 0, []), (24, .if_icmp .ge 84, 52, 0, 0, []), (27, .iconst 0, 0, 0, 0, []), (28, .istore 5, 0, 0, 0, []), (30, .iload 5, 0, 0, 0, []), (32, .aload_n 1, 0, 0, 0, []), (33, .getfield 21, 1, 2, 0, []), (36, .if_icmp .ge 66, 50, 0, 0, []), (39, .aload_n 1, 0, 0, 0, []), (40, .getfield 26, 1, 5, 0, []), (43, .iload 4, 0, 0, 0, []), (45, .aaload, 0, 0, 0, []), (46, .astore 6, 0, 0, 0, []), (48, .aload_n 1, 0, 0, 0, []), (49, .getfield 26, 1, 5, 0, []), (52, .iload 5, 0, 0, 0, []), (54, .aaload, 0, 0, 0, []), (55, .astore 7, 0, 0, 0, []), (57, .aload 6, 0, 0, 0, []), (59, .getfield 30, 6, 0, 0, []), (62, .iload_n 2, 0, 0, 0, []), (63, .if_icmp .ne 33, 48, 0, 0, []), (66, .aload 7, 0, 0, 0, []), (68, .getfield 30, 6, 0, 0, []), (71, .iload_n 3, 0, 0, 0, []), (72, .if_icmp .ne 24, 48, 0, 0, []), (75, .aload 6, 0, 0, 0, []), (77, .getfield 35, 6, 1, 0, []), (80, .aload 7, 0, 0, 0, []), (82, .getfield 35, 6, 1, 0, []), (85, .if_icmp .ne 11, 48, 0, 0, []), (88, .aload_n 0, 0, 0, 0, []), (89, .aload 6, 0, 0, 0, []), (91, .aload 7, 0, 0, 0, []), (93, .invokevirtual 38, 59, 2, 0, []), (96, .iinc 5 1, 0, 0, 1, []), (99, .goto (-69), 17, 0, 0, []), (102, .iinc 4 1, 0, 0, 1, []), (105, .goto (-87), 11, 0, 0, []), (108, .return_, 2, 0, 0, [])]
-- 59 WhoIsWho$Level.addPairs(LWhoIsWho$Scan;LWhoIsWho$Scan;)V
def am_c59 : List am_E := [(0, .iconst 0, 0, 0, 0, []), (1, .istore_n 3, 0, 0, 0, []), (2, .iload_n 3, 0, 0, 0, []), (3, .aload_n 1, 0, 0, 0, []), (4, .getfield 42, 6, 2, 0, []), (7, .if_icmp .ge 108, 64, 0, 0, []), (10, .iconst 0, 0, 0, 0, []), (11, .istore 4, 0, 0, 0, []), (13, .iload 4, 0, 0, 0, []), (15, .aload_n 2, 0, 0, 0, []), (16, .getfield 42, 6, 2, 0, []), (19, .if_icmp .ge 90, 62, 0, 0, []), (22, .aload_n 1, 0, 0, 0, []), (23, .getfield 45, 6, 5, 0, []), (26, .iload_n 3, 0, 0, 0, []), (27, .iaload, 0, 0, 0, []), (28, .ifCond .eq 75, 60, 0, 0, []), (31, .aload_n 1, 0, 0, 0, []), (32, .getfield 45, 6, 5, 0, []), (35, .iload_n 3, 0, 0, 0, []), (36, .iaload, 0, 0, 0, []), (37, .aload_n 2, 0, 0, 0, []), (38, .getfield 45, 6, 5, 0, []), (41, .iload 4, 0, 0, 0, []), (43, .iaload, 0, 0, 0, []), (44, .if_icmp .ne 59, 60, 0, 0, []), (47, .aload_n 0, 0, 0, 0, []), (48, .dup, 0, 0, 0, []), (49, .getfield 9, 5, 0, 0, []), (52, .iconst 1, 0, 0, 1, []), (53, .iadd, 0, 0, 0, []), (54, .putfield 9, 5, 0, 0, []), (57, .aload_n 0, 0, 0, 0, []), (58, .dup, 0, 0, 0, []), (59, .getfield 15, 5, 1, 0, []), (62, .aload_n 2, 0, 0, 0, []), (63, .getfield 49, 6, 3, 0, []), (66, .iload 4, 0, 0, 0, []), (68, .iaload, 0, 0, 0, []), (69, .aload_n 1, 0, 0, 0, []), (70, .getfield 49, 6, 3, 0, []), (73, .iload_n 3, 0, 0, 0, []), (74, .iaload, 0, 0, 0, []), (75, .isub, 0, 0, 0, []), (76, .iadd, 0, 0, 0, []), (77, .putfield 15, 5, 1, 0, []), (80, .aload_n 0, 0, 0, 0, []), (81, .dup, 0, 0, 0, []), (82, .getfield 18, 5, 2, 0, []), (85, .aload_n 2, 0, 0, 0, []), (86, .getfield 52, 6, 4, 0, []), (89, .iload 4, 0, 0, 0, []), (91, .iaload, 0, 0, 0, []), (92, .aload_n 1, 0, 0, 0, []), (93, .getfield 52, 6, 4, 0, []), (96, .iload_n 3, 0, 0, 0, []), (97, .iaload, 0, 0, 0, []), (98, .isub, 0, 0, 0, []), (99, .iadd, 0, 0, 0, []), (100, .putfield 18, 5, 2, 0, []), (103, .iinc 4 1, 0, 0, 1, []), (106, .goto (-93), 8, 0, 0, []), (109, .iinc 3 1, 0, 0, 1, []), (112, .goto (-110), 2, 0, 0, []), (115, .return_, 2, 0, 0, [])]
-- 60 WhoIsWho$Level.meanX()I
def am_c60 : List am_E := [(0, .aload_n 0, 0, 0, 0, []), (1, .getfield 9, 5, 0, 0, []), (4, .ifCond .le 17, 9, 0, 0, []), (7, .aload_n 0, 0, 0, 0, []), (8, .getfield 15, 5, 1, 0, []), (11, .aload_n 0, 0, 0, 0, []), (12, .getfield 9, 5, 0, 0, []), (15, .invokestatic 55, 134, 2, 0, []), (18, .goto 5, 10, 0, 0, []), (21, .ldc 61, 0, 0, (-2147483648), []), (23, .ireturn, 0, 0, 0, [])]
-- 61 WhoIsWho$Level.meanY()I
def am_c61 : List am_E := [(0, .aload_n 0, 0, 0, 0, []), (1, .getfield 9, 5, 0, 0, []), (4, .ifCond .le 17, 9, 0, 0, []), (7, .aload_n 0, 0, 0, 0, []), (8, .getfield 18, 5, 2, 0, []), (11, .aload_n 0, 0, 0, 0, []), (12, .getfield 9, 5, 0, 0, []), (15, .invokestatic 55, 134, 2, 0, []), (18, .goto 5, 10, 0, 0, []), (21, .ldc 61, 0, 0, (-2147483648), []), (23, .ireturn, 0, 0, 0, [])]
-- 62 WhoIsWho$Scan.add(III)V
def am_c62 : List am_E := [(0, .aload_n 0, 0, 0, 0, []), (1, .getfield 21, 6, 2, 0, []), (4, .iconst 4, 0, 0, 4, []), (5, .if_icmp .ge 43, 28, 0, 0, []), (8, .aload_n 0, 0, 0, 0, []), (9, .getfield 9, 6, 3, 0, []), (12, .aload_n 0, 0, 0, 0, []), (13, .getfield 21, 6, 2, 0, []), (16, .iload_n 1, 0, 0, 0, []), (17, .iastore, 0, 0, 0, []), (18, .aload_n 0, 0, 0, 0, []), (19, .getfield 15, 6, 4, 0, []), (22, .aload_n 0, 0, 0, 0, []), (23, .getfield 21, 6, 2, 0, []), (26, .iload_n 2, 0, 0, 0, []), (27, .iastore, 0, 0, 0, []), (28, .aload_n 0, 0, 0, 0, []), (29, .getfield 18, 6, 5, 0, []), (32, .aload_n 0, 0, 0, 0, []), (33, .getfield 21, 6, 2, 0, []), (36, .iload_n 3, 0, 0, 0, []), (37, .iastore, 0, 0, 0, []), (38, .aload_n 0, 0, 0, 0, []), (39, .dup, 0, 0, 0, []), (40, .getfield 21, 6, 2, 0, []), (43, .iconst 1, 0, 0, 1, []), (44, .iadd, 0, 0, 0, []), (45, .putfield 21, 6, 2, 0, []), (48, .return_, 2, 0, 0, [])]
-- 63 WhoIsWho$Join.dotPickedFor(II)I
def am_c63 : List am_E := [(0, .iconst 0, 0, 0, 0, []), (1, .istore_n 3, 0, 0, 0, []), (2, .iload_n 3, 0, 0, 0, []), (3, .iload_n 2, 0, 0, 0, []), (4, .if_icmp .ge 21, 15, 0, 0, []), (7, .aload_n 0, 0, 0, 0, []), (8, .getfield 9, 7, 2, 0, []), (11, .iload_n 3, 0, 0, 0, []), (12, .iaload, 0, 0, 0, []), (13, .iload_n 1, 0, 0, 0, []), (14, .if_icmp .ne 5, 13, 0, 0, []), (17, .iload_n 3, 0, 0, 0, []), (18, .ireturn, 0, 0, 0, []), (19, .iinc 3 1, 0, 0, 1, []), (22, .goto (-20), 2, 0, 0, []), (25, .iconst (-1), 0, 0, (-1), []), (26, .ireturn, 0, 0, 0, [])]
-- 64 WhoIsWho$World.clear()V
def am_c64 : List am_E := [(0, .aload_n 0, 0, 0, 0, []), (1, .iconst 0, 0, 0, 0, []), (2, .putfield 22, 8, 0, 0, []), (5, .aload_n 0, 0, 0, 0, []), (6, .iconst 0, 0, 0, 0, []), (7, .putfield 26, 8, 1, 0, []), (10, .return_, 2, 0, 0, [])]
-- 65 WhoIsWho$World.copyFrom(LWhoIsWho$World;)V
def am_c65 : List am_E := [(0, .aload_n 0, 0, 0, 0, []), (1, .aload_n 1, 0, 0, 0, []), (2, .getfield 22, 8, 0, 0, []), (5, .putfield 22, 8, 0, 0, []), (8, .aload_n 0, 0, 0, 0, []), (9, .aload_n 1, 0, 0, 0, []), (10, .getfield 26, 8, 1, 0, []), (13, .putfield 26, 8, 1, 0, []), (16, .iconst 0, 0, 0, 0, []), (17, .istore_n 2, 0, 0, 0, []), (18, .iload_n 2, 0, 0, 0, []), (19, .aload_n 0, 0, 0, 0, []), (20, .getfield 26, 8, 1, 0, []), (23, .if_icmp .ge 24, 25, 0, 0, []), (26, .aload_n 0, 0, 0, 0, []), (27, .getfield 11, 8, 2, 0, []), (30, .iload_n 2, 0, 0, 0, []), (31, .aaload, 0, 0, 0, []), (32, .aload_n 1, 0, 0, 0, []), (33, .getfield 11, 8, 2, 0, []), (36, .iload_n 2, 0, 0, 0, []), (37, .aaload, 0, 0, 0, []), (38, .invokevirtual 29, 72, 1, 0, []), (41, .iinc 2 1, 0, 0, 1, []), (44, .goto (-26), 10, 0, 0, []), (47, .aload_n 1, 0, 0, 0, []), (48, .getfield 17, 8, 3, 0, []), (51, .iconst 0, 0, 0, 0, []), (52, .aload_n 0, 0, 0, 0, []), (53, .getfield 17, 8, 3, 0, []), (56, .iconst 0, 0, 0, 0, []), (57, .aload_n 0, 0, 0, 0, []), (58, .getfield 17, 8, 3, 0, []), (61, .arraylength, 0, 0, 0, []), (62, .invokestatic 33, 999, 5, 0, []), (65, .return_, 2, 0, 0, [])]
-- 66 WhoIsWho$World.accountOf(II)I
def am_c66 : List am_E := [(0, .aload_n 0, 0, 0, 0, []), (1, .getfield 17, 8, 3, 0, []), (4, .iconst 4, 0, 0, 4, []), (5, .iload_n 1, 0, 0, 0, []), (6, .imul, 0, 0, 0, []), (7, .iload_n 2, 0, 0, 0, []), (8, .iadd, 0, 0, 0, []), (9, .iaload, 0, 0, 0, []), (10, .ireturn, 0, 0, 0, [])]
-- 67 WhoIsWho$World.addTrack(IIII)I
def am_c67 : List am_E := [(0, .aload_n 0, 0, 0, 0, []), (1, .getfield 26, 8, 1, 0, []), (4, .bipush 6, 0, 0, 6, []), (6, .if_icmp .lt 5, 6, 0, 0, []), (9, .iconst (-1), 0, 0, (-1), []), (10, .ireturn, 0, 0, 0, []), (11, .aload_n 0, 0, 0, 0, []), (12, .getfield 11, 8, 2, 0, []), (15, .aload_n 0, 0, 0, 0, []), (16, .getfield 26, 8, 1, 0, []), (19, .aaload, 0, 0, 0, []), (20, .iload_n 1, 0, 0, 0, []), (21, .iload_n 2, 0, 0, 0, []), (22, .iload_n 3, 0, 0, 0, []), (23, .iload 4, 0, 0, 0, []), (25, .invokevirtual 39, 73, 4, 0, []), (28, .aload_n 0, 0, 0, 0, []), (29, .dup, 0, 0, 0, []), (30, .getfield 26, 8, 1, 0, []), (33, .iconst 1, 0, 0, 1, []), (34, .iadd, 0, 0, 0, []), (35, .putfield 26, 8, 1, 0, []), (38, .aload_n 0, 0, 0, 0, []), (39, .getfield 26, 8, 1, 0, []), (42, .iconst 1, 0, 0, 1, []), (43, .isub, 0, 0, 0, []), (44, .ireturn, 0, 0, 0, [])]
-- 68 WhoIsWho$World.countLookedFor()I
def am_c68 : List am_E := [(0, .iconst 0, 0, 0, 0, []), (1, .istore_n 1, 0, 0, 0, []), (2, .iconst 0, 0, 0, 0, []), (3, .istore_n 2, 0, 0, 0, []), (4, .iload_n 2, 0, 0, 0, []), (5, .aload_n 0, 0, 0, 0, []), (6, .getfield 26, 8, 1, 0, []), (9, .if_icmp .ge 29, 22, 0, 0, []), (12, .iload_n 1, 0, 0, 0, []), (13, .aload_n 0, 0, 0, 0, []), (14, .getfield 11, 8, 2, 0, []), (17, .iload_n 2, 0, 0, 0, []), (18, .aaload, 0, 0, 0, []), (19, .getfield 43, 9, 8, 0, []), (22, .ifCond .eq 7, 17, 0, 0, []), (25, .iconst 0, 0, 0, 0, []), (26, .goto 4, 18, 0, 0, []), (29, .iconst 1, 0, 0, 1, []), (30, .iadd, 0, 0, 0, []), (31, .istore_n 1, 0, 0, 0, []), (32, .iinc 2 1, 0, 0, 1, []), (35, .goto (-31), 4, 0, 0, []), (38, .iload_n 1, 0, 0, 0, []), (39, .ireturn, 0, 0, 0, [])]
-- 69 WhoIsWho$World.countAlive()I
def am_c69 : List am_E := [(0, .iconst 0, 0, 0, 0, []), (1, .istore_n 1, 0, 0, 0, []), (2, .iconst 0, 0, 0, 0, []), (3, .istore_n 2, 0, 0, 0, []), (4, .iload_n 2, 0, 0, 0, []), (5, .aload_n 0, 0, 0, 0, []), (6, .getfield 26, 8, 1, 0, []), (9, .if_icmp .ge 41, 28, 0, 0, []), (12, .iload_n 1, 0, 0, 0, []), (13, .aload_n 0, 0, 0, 0, []), (14, .getfield 11, 8, 2, 0, []), (17, .iload_n 2, 0, 0, 0, []), (18, .aaload, 0, 0, 0, []), (19, .invokevirtual 47, 76, 0, 0, []), (22, .ifCond .eq 19, 23, 0, 0, []), (25, .aload_n 0, 0, 0, 0, []), (26, .getfield 11, 8, 2, 0, []), (29, .iload_n 2, 0, 0, 0, []), (30, .aaload, 0, 0, 0, []), (31, .getfield 43, 9, 8, 0, []), (34, .ifCond .ne 7, 23, 0, 0, []), (37, .iconst 1, 0, 0, 1, []), (38, .goto 4, 24, 0, 0, []), (41, .iconst 0, 0, 0, 0, []), (42, .iadd, 0, 0, 0, []), (43, .istore_n 1, 0, 0, 0, []), (44, .iinc 2 1, 0, 0, 1, []), (47, .goto (-43), 4, 0, 0, []), (50, .iload_n 1, 0, 0, 0, []), (51, .ireturn, 0, 0, 0, [])]
-- 70 WhoIsWho$World.hasMarked(II)Z
def am_c70 : List am_E := [(0, .iload_n 1, 0, 0, 0, []), (1, .aload_n 0, 0, 0, 0, []), (2, .getfield 26, 8, 1, 0, []), (5, .if_icmp .ge 20, 13, 0, 0, []), (8, .aload_n 0, 0, 0, 0, []), (9, .getfield 11, 8, 2, 0, []), (12, .iload_n 1, 0, 0, 0, []), (13, .aaload, 0, 0, 0, []), (14, .getfield 51, 9, 7, 0, []), (17, .iload_n 2, 0, 0, 0, []), (18, .if_icmp .ne 7, 13, 0, 0, []), (21, .iconst 1, 0, 0, 1, []), (22, .goto 4, 14, 0, 0, []), (25, .iconst 0, 0, 0, 0, []), (26, .ireturn, 1, 0, 0, [])]
-- 71 WhoIsWho$World.apply(LWhoIsWho$Join;LWhoIsWho$Told;I)V
def am_c71 : List am_E := [(0, .aload_n 2, 0, 0, 0, []), (1, .getfield 54, 1, 5, 0, []), (4, .iload_n 3, 0, 0, 0, []), (5, .aaload, 0, 0, 0, []), (6, .astore 4, 0, 0, 0, []), (8, .aload_n 0, 0, 0, 0, []), (9, .getfield 26, 8, 1, 0, []), (12, .istore 5, 0, 0, 0, []), (14, .iconst 0, 0, 0, 0, []), (15, .istore 6, 0, 0, 0, []), (17, .iload 6, 0, 0, 0, []), (19, .iload 5, 0, 0, 0, []), (21, .if_icmp .ge 83, 52, 0, 0, []), (24, .aload_n 1, 0, 0, 0, []), (25, .iload 6, 0, 0, 0, []), (27, .aload 4, 0, 0, 0, []), (29, .getfield 60, 6, 2, 0, []), (32, .invokevirtual 65, 63, 2, 0, []), (35, .istore 7, 0, 0, 0, []), (37, .iload 7, 0, 0, 0, []), (39, .ifCond .lt 43, 41, 0, 0, []), (42, .aload_n 0, 0, 0, 0, []), (43, .getfield 11, 8, 2, 0, []), (46, .iload 6, 0, 0, 0, []), (48, .aaload, 0, 0, 0, []), (49, .aload_n 2, 0, 0, 0, []), (50, .iload_n 3, 0, 0, 0, []), (51, .iload 7, 0, 0, 0, []), (53, .invokevirtual 71, 39, 2, 0, []), (56, .aload_n 2, 0, 0, 0, []), (57, .iload_n 3, 0, 0, 0, []), (58, .iload 7, 0, 0, 0, []), (60, .invokevirtual 74, 40, 2, 0, []), (63, .aload 4, 0, 0, 0, []), (65, .getfield 77, 6, 1, 0, []), (68, .aload 4, 0, 0, 0, []), (70, .getfield 80, 6, 5, 0, []), (73, .iload 7, 0, 0, 0, []), (75, .iaload, 0, 0, 0, []), (76, .invokevirtual 82, 74, 4, 0, []), (79, .goto 19, 50, 0, 0, []), (82, .aload_n 0, 0, 0, 0, []), (83, .getfield 11, 8, 2, 0, []), (86, .iload 6, 0, 0, 0, []), (88, .aaload, 0, 0, 0, []), (89, .aload_n 2, 0, 0, 0, []), (90, .getfield 85, 1, 7, 0, []), (93, .iconst 4, 0, 0, 4, []), (94, .iaload, 0, 0, 0, []), (95, .invokevirtual 88, 75, 1, 0, []), (98, .iinc 6 1, 0, 0, 1, []), (101, .goto (-84), 10, 0, 0, []), (104, .iconst 0, 0, 0, 0, []), (105, .istore 6, 0, 0, 0, []), (107, .iload 6, 0, 0, 0, []), (109, .aload 4, 0, 0, 0, []), (111, .getfield 60, 6, 2, 0, []), (114, .if_icmp .ge 88, 102, 0, 0, []), (117, .aload_n 1, 0, 0, 0, []), (118, .getfield 92, 7, 2, 0, []), (121, .iload 6, 0, 0, 0, []), (123, .iaload, 0, 0, 0, []), (124, .istore 7, 0, 0, 0, []), (126, .iload 7, 0, 0, 0, []), (128, .istore 8, 0, 0, 0, []), (130, .iload 7, 0, 0, 0, []), (132, .bipush 6, 0, 0, 6, []), (134, .if_icmp .ne 39, 86, 0, 0, []), (137, .aload_n 0, 0, 0, 0, []), (138, .aload_n 2, 0, 0, 0, []), (139, .iload_n 3, 0, 0, 0, []), (140, .iload 6, 0, 0, 0, []), (142, .invokevirtual 71, 39, 2, 0, []), (145, .aload_n 2, 0, 0, 0, []), (146, .iload_n 3, 0, 0, 0, []), (147, .iload 6, 0, 0, 0, []), (149, .invokevirtual 74, 40, 2, 0, []), (152, .aload 4, 0, 0, 0, []), (154, .getfield 77, 6, 1, 0, []), (157, .aload 4, 0, 0, 0, []), (159, .getfield 80, 6, 5, 0, []), (162, .iload 6, 0, 0, 0, []), (164, .iaload, 0, 0, 0, []), (165, .invokevirtual 95, 67, 4, 0, []), (168, .istore 8, 0, 0, 0, []), (170, .goto 13, 91, 0, 0, []), (173, .iload 7, 0, 0, 0, []), (175, .bipush 7, 0, 0, 7, []), (177, .if_icmp .ne 6, 91, 0, 0, []), (180, .iconst (-1), 0, 0, (-1), []), (181, .istore 8, 0, 0, 0, []), (183, .aload_n 0, 0, 0, 0, []), (184, .getfield 17, 8, 3, 0, []), (187, .iconst 4, 0, 0, 4, []), (188, .iload_n 3, 0, 0, 0, []), (189, .imul, 0, 0, 0, []), (190, .iload 6, 0, 0, 0, []), (192, .iadd, 0, 0, 0, []), (193, .iload 8, 0, 0, 0, []), (195, .iastore, 0, 0, 0, []), (196, .iinc 6 1, 0, 0, 1, []), (199, .goto (-92), 54, 0, 0, []), (202, .aload_n 0, 0, 0, 0, []), (203, .aload_n 1, 0, 0, 0, []), (204, .getfield 99, 7, 1, 0, []), (207, .putfield 22, 8, 0, 0, []), (210, .return_, 2, 0, 0, [])]
-- 72 WhoIsWho$Track.copyFrom(LWhoIsWho$Track;)V
def am_c72 : List am_E := [(0, .aload_n 0, 0, 0, 0, []), (1, .aload_n 1, 0, 0, 0, []), (2, .getfield 9, 9, 0, 0, []), (5, .putfield 9, 9, 0, 0, []), (8, .aload_n 0, 0, 0, 0, []), (9, .aload_n 1, 0, 0, 0, []), (10, .getfield 15, 9, 1, 0, []), (13, .putfield 15, 9, 1, 0, []), (16, .aload_n 0, 0, 0, 0, []), (17, .aload_n 1, 0, 0, 0, []), (18, .getfield 18, 9, 2, 0, []), (21, .putfield 18, 9, 2, 0, []), (24, .aload_n 0, 0, 0, 0, []), (25, .aload_n 1, 0, 0, 0, []), (26, .getfield 21, 9, 3, 0, []), (29, .putfield 21, 9, 3, 0, []), (32, .aload_n 0, 0, 0, 0, []), (33, .aload_n 1, 0, 0, 0, []), (34, .getfield 24, 9, 4, 0, []), (37, .putfield 24, 9, 4, 0, []), (40, .aload_n 0, 0, 0, 0, []), (41, .aload_n 1, 0, 0, 0, []), (42, .getfield 27, 9, 5, 0, []), (45, .putfield 27, 9, 5, 0, []), (48, .aload_n 0, 0, 0, 0, []), (49, .aload_n 1, 0, 0, 0, []), (50, .getfield 30, 9, 6, 0, []), (53, .putfield 30, 9, 6, 0, []), (56, .aload_n 0, 0, 0, 0, []), (57, .aload_n 1, 0, 0, 0, []), (58, .getfield 33, 9, 7, 0, []), (61, .putfield 33, 9, 7, 0, []), (64, .aload_n 0, 0, 0, 0, []), (65, .aload_n 1, 0, 0, 0, []), (66, .getfield 36, 9, 8, 0, []), (69, .putfield 36, 9, 8, 0, []), (72, .return_, 2, 0, 0, [])]
-- 73 WhoIsWho$Track.begin(IIII)V
def am_c73 : List am_E := [(0, .aload_n 0, 0, 0, 0, []), (1, .iload_n 1, 0, 0, 0, []), (2, .putfield 9, 9, 0, 0, []), (5, .aload_n 0, 0, 0, 0, []), (6, .iload_n 2, 0, 0, 0, []), (7, .putfield 15, 9, 1, 0, []), (10, .aload_n 0, 0, 0, 0, []), (11, .iconst 0, 0, 0, 0, []), (12, .putfield 18, 9, 2, 0, []), (15, .aload_n 0, 0, 0, 0, []), (16, .iconst 0, 0, 0, 0, []), (17, .putfield 21, 9, 3, 0, []), (20, .aload_n 0, 0, 0, 0, []), (21, .iload_n 3, 0, 0, 0, []), (22, .putfield 24, 9, 4, 0, []), (25, .aload_n 0, 0, 0, 0, []), (26, .iconst 1, 0, 0, 1, []), (27, .putfield 27, 9, 5, 0, []), (30, .aload_n 0, 0, 0, 0, []), (31, .iconst 0, 0, 0, 0, []), (32, .putfield 30, 9, 6, 0, []), (35, .aload_n 0, 0, 0, 0, []), (36, .iload 4, 0, 0, 0, []), (38, .putfield 33, 9, 7, 0, []), (41, .aload_n 0, 0, 0, 0, []), (42, .iconst 0, 0, 0, 0, []), (43, .putfield 36, 9, 8, 0, []), (46, .return_, 2, 0, 0, [])]
-- 74 WhoIsWho$Track.hit(IIII)V
def am_c74 : List am_E := [(0, .iload_n 3, 0, 0, 0, []), (1, .aload_n 0, 0, 0, 0, []), (2, .getfield 24, 9, 4, 0, []), (5, .isub, 0, 0, 0, []), (6, .istore 5, 0, 0, 0, []), (8, .iload 5, 0, 0, 0, []), (10, .ifCond .le 33, 23, 0, 0, []), (13, .aload_n 0, 0, 0, 0, []), (14, .iload_n 1, 0, 0, 0, []), (15, .aload_n 0, 0, 0, 0, []), (16, .getfield 9, 9, 0, 0, []), (19, .isub, 0, 0, 0, []), (20, .iload 5, 0, 0, 0, []), (22, .invokestatic 40, 134, 2, 0, []), (25, .putfield 18, 9, 2, 0, []), (28, .aload_n 0, 0, 0, 0, []), (29, .iload_n 2, 0, 0, 0, []), (30, .aload_n 0, 0, 0, 0, []), (31, .getfield 15, 9, 1, 0, []), (34, .isub, 0, 0, 0, []), (35, .iload 5, 0, 0, 0, []), (37, .invokestatic 40, 134, 2, 0, []), (40, .putfield 21, 9, 3, 0, []), (43, .aload_n 0, 0, 0, 0, []), (44, .iload_n 1, 0, 0, 0, []), (45, .putfield 9, 9, 0, 0, []), (48, .aload_n 0, 0, 0, 0, []), (49, .iload_n 2, 0, 0, 0, []), (50, .putfield 15, 9, 1, 0, []), (53, .aload_n 0, 0, 0, 0, []), (54, .iload_n 3, 0, 0, 0, []), (55, .putfield 24, 9, 4, 0, []), (58, .aload_n 0, 0, 0, 0, []), (59, .dup, 0, 0, 0, []), (60, .getfield 27, 9, 5, 0, []), (63, .iconst 1, 0, 0, 1, []), (64, .iadd, 0, 0, 0, []), (65, .putfield 27, 9, 5, 0, []), (68, .aload_n 0, 0, 0, 0, []), (69, .iconst 0, 0, 0, 0, []), (70, .putfield 30, 9, 6, 0, []), (73, .aload_n 0, 0, 0, 0, []), (74, .getfield 33, 9, 7, 0, []), (77, .ifCond .ne 9, 47, 0, 0, []), (80, .aload_n 0, 0, 0, 0, []), (81, .iload 4, 0, 0, 0, []), (83, .putfield 33, 9, 7, 0, []), (86, .return_, 2, 0, 0, [])]
-- 75 WhoIsWho$Track.miss(I)V
def am_c75 : List am_E := [(0, .aload_n 0, 0, 0, 0, []), (1, .getfield 36, 9, 8, 0, []), (4, .ifCond .ne 30, 18, 0, 0, []), (7, .aload_n 0, 0, 0, 0, []), (8, .dup, 0, 0, 0, []), (9, .getfield 30, 9, 6, 0, []), (12, .iconst 1, 0, 0, 1, []), (13, .iadd, 0, 0, 0, []), (14, .putfield 30, 9, 6, 0, []), (17, .aload_n 0, 0, 0, 0, []), (18, .aload_n 0, 0, 0, 0, []), (19, .getfield 30, 9, 6, 0, []), (22, .iload_n 1, 0, 0, 0, []), (23, .if_icmp .lt 7, 16, 0, 0, []), (26, .iconst 1, 0, 0, 1, []), (27, .goto 4, 17, 0, 0, []), (30, .iconst 0, 0, 0, 0, []), (31, .putfield 36, 9, 8, 0, []), (34, .return_, 2, 0, 0, [])]
-- 76 WhoIsWho$Track.isConfirmed()Z
def am_c76 : List am_E := [(0, .aload_n 0, 0, 0, 0, []), (1, .getfield 27, 9, 5, 0, []), (4, .iconst 2, 0, 0, 2, []), (5, .if_icmp .lt 7, 6, 0, 0, []), (8, .iconst 1, 0, 0, 1, []), (9, .goto 4, 7, 0, 0, []), (12, .iconst 0, 0, 0, 0, []), (13, .ireturn, 1, 0, 0, [])]
-- 77 WhoIsWho$Track.mayBear(I)Z
def am_c77 : List am_E := [(0, .aload_n 0, 0, 0, 0, []), (1, .getfield 33, 9, 7, 0, []), (4, .ifCond .eq 15, 9, 0, 0, []), (7, .iload_n 1, 0, 0, 0, []), (8, .ifCond .eq 11, 9, 0, 0, []), (11, .aload_n 0, 0, 0, 0, []), (12, .getfield 33, 9, 7, 0, []), (15, .iload_n 1, 0, 0, 0, []), (16, .if_icmp .ne 7, 11, 0, 0, []), (19, .iconst 1, 0, 0, 1, []), (20, .goto 4, 12, 0, 0, []), (23, .iconst 0, 0, 0, 0, []), (24, .ireturn, 1, 0, 0, [])]
-- 78 WhoIsWho$Track.foretoldX(II)I
def am_c78 : List am_E := [(0, .aload_n 0, 0, 0, 0, []), (1, .getfield 9, 9, 0, 0, []), (4, .aload_n 0, 0, 0, 0, []), (5, .iload_n 1, 0, 0, 0, []), (6, .iload_n 2, 0, 0, 0, []), (7, .invokevirtual 46, 80, 2, 0, []), (10, .aload_n 0, 0, 0, 0, []), (11, .getfield 18, 9, 2, 0, []), (14, .imul, 0, 0, 0, []), (15, .iadd, 0, 0, 0, []), (16, .ireturn, 0, 0, 0, [])]
-- 79 WhoIsWho$Track.foretoldY(II)I
def am_c79 : List am_E := [(0, .aload_n 0, 0, 0, 0, []), (1, .getfield 15, 9, 1, 0, []), (4, .aload_n 0, 0, 0, 0, []), (5, .iload_n 1, 0, 0, 0, []), (6, .iload_n 2, 0, 0, 0, []), (7, .invokevirtual 46, 80, 2, 0, []), (10, .aload_n 0, 0, 0, 0, []), (11, .getfield 21, 9, 3, 0, []), (14, .imul, 0, 0, 0, []), (15, .iadd, 0, 0, 0, []), (16, .ireturn, 0, 0, 0, [])]
-- 80 WhoIsWho$Track.ahead(II)I
def am_c80 : List am_E := [(0, .iload_n 1, 0, 0, 0, []), (1, .iconst 1, 0, 0, 1, []), (2, .if_icmp .ne 5, 5, 0, 0, []), (5, .iconst 0, 0, 0, 0, []), (6, .ireturn, 0, 0, 0, []), (7, .iload_n 1, 0, 0, 0, []), (8, .iconst 2, 0, 0, 2, []), (9, .if_icmp .ne 12, 13, 0, 0, []), (12, .aload_n 0, 0, 0, 0, []), (13, .getfield 24, 9, 4, 0, []), (16, .iload_n 2, 0, 0, 0, []), (17, .isub, 0, 0, 0, []), (18, .goto 9, 17, 0, 0, []), (21, .iload_n 2, 0, 0, 0, []), (22, .aload_n 0, 0, 0, 0, []), (23, .getfield 24, 9, 4, 0, []), (26, .isub, 0, 0, 0, []), (27, .ireturn, 0, 0, 0, [])]
-- 81 WhoIsWho$Track.read(I)I
def am_c81 : List am_E := [(0, .iload_n 1, 0, 0, 0, []), (1, .tableswitch 121 0 9 #[55, 60, 65, 70, 75, 80, 85, 90, 95, 108], 40, 0, 0, [2, 5, 8, 11, 14, 17, 20, 23, 26, 33]), (56, .aload_n 0, 0, 0, 0, []), (57, .getfield 9, 9, 0, 0, []), (60, .ireturn, 0, 0, 0, []), (61, .aload_n 0, 0, 0, 0, []), (62, .getfield 15, 9, 1, 0, []), (65, .ireturn, 0, 0, 0, []), (66, .aload_n 0, 0, 0, 0, []), (67, .getfield 18, 9, 2, 0, []), (70, .ireturn, 0, 0, 0, []), (71, .aload_n 0, 0, 0, 0, []), (72, .getfield 21, 9, 3, 0, []), (75, .ireturn, 0, 0, 0, []), (76, .aload_n 0, 0, 0, 0, []), (77, .getfield 24, 9, 4, 0, []), (80, .ireturn, 0, 0, 0, []), (81, .aload_n 0, 0, 0, 0, []), (82, .getfield 27, 9, 5, 0, []), (85, .ireturn, 0, 0, 0, []), (86, .aload_n 0, 0, 0, 0, []), (87, .getfield 30, 9, 6, 0, []), (90, .ireturn, 0, 0, 0, []), (91, .aload_n 0, 0, 0, 0, []), (92, .getfield 33, 9, 7, 0, []), (95, .ireturn, 0, 0, 0, []), (96, .aload_n 0, 0, 0, 0, []), (97, .getfield 36, 9, 8, 0, []), (100, .ifCond .eq 7, 31, 0, 0, []), (103, .iconst 1, 0, 0, 1, []), (104, .goto 4, 32, 0, 0, []), (107, .iconst 0, 0, 0, 0, []), (108, .ireturn, 0, 0, 0, []), (109, .aload_n 0, 0, 0, 0, []), (110, .invokevirtual 49, 76, 0, 0, []), (113, .ifCond .eq 7, 38, 0, 0, []), (116, .iconst 1, 0, 0, 1, []), (117, .goto 4, 39, 0, 0, []), (120, .iconst 0, 0, 0, 0, []), (121, .ireturn, 0, 0, 0, []), (122, .ldc 53, 0, 0, (-2147483648), []), (124, .ireturn, 0, 0, 0, [])]
-- 82 WhoIsWhoModel.in(III)Z
def am_c82 : List am_E := [(0, .iload_n 1, 0, 0, 0, []), (1, .iload_n 2, 0, 0, 0, []), (2, .if_icmp .lt 12, 8, 0, 0, []), (5, .iload_n 1, 0, 0, 0, []), (6, .iload_n 3, 0, 0, 0, []), (7, .if_icmp .gt 7, 8, 0, 0, []), (10, .iconst 1, 0, 0, 1, []), (11, .goto 4, 9, 0, 0, []), (14, .iconst 0, 0, 0, 0, []), (15, .ireturn, 1, 0, 0, [])]
-- 83 WhoIsWhoModel.isWatcher(I)Z
def am_c83 : List am_E := [(0, .aload_n 0, 0, 0, 0, []), (1, .iload_n 1, 0, 0, 0, []), (2, .iconst 0, 0, 0, 0, []), (3, .aload_n 0, 0, 0, 0, []), (4, .getfield 7, 10, 0, 0, []), (7, .iconst 1, 0, 0, 1, []), (8, .isub, 0, 0, 0, []), (9, .invokevirtual 130, 82, 3, 0, []), (12, .ireturn, 1, 0, 0, [])]
-- 84 WhoIsWhoModel.isScan(I)Z
def am_c84 : List am_E := [(0, .aload_n 0, 0, 0, 0, []), (1, .iload_n 1, 0, 0, 0, []), (2, .iconst 0, 0, 0, 0, []), (3, .aload_n 0, 0, 0, 0, []), (4, .getfield 13, 10, 1, 0, []), (7, .iconst 1, 0, 0, 1, []), (8, .isub, 0, 0, 0, []), (9, .invokevirtual 130, 82, 3, 0, []), (12, .ireturn, 1, 0, 0, [])]
-- 85 WhoIsWhoModel.isDot(II)Z
def am_c85 : List am_E := [(0, .aload_n 0, 0, 0, 0, []), (1, .iload_n 1, 0, 0, 0, []), (2, .invokevirtual 134, 84, 1, 0, []), (5, .ifCond .eq 24, 17, 0, 0, []), (8, .aload_n 0, 0, 0, 0, []), (9, .iload_n 2, 0, 0, 0, []), (10, .iconst 0, 0, 0, 0, []), (11, .aload_n 0, 0, 0, 0, []), (12, .getfield 32, 10, 7, 0, []), (15, .iload_n 1, 0, 0, 0, []), (16, .iaload, 0, 0, 0, []), (17, .iconst 1, 0, 0, 1, []), (18, .isub, 0, 0, 0, []), (19, .invokevirtual 130, 82, 3, 0, []), (22, .ifCond .eq 7, 17, 0, 0, []), (25, .iconst 1, 0, 0, 1, []), (26, .goto 4, 18, 0, 0, []), (29, .iconst 0, 0, 0, 0, []), (30, .ireturn, 1, 0, 0, [])]
-- 86 WhoIsWhoModel.watcher()I
def am_c86 : List am_E := [(0, .aload_n 0, 0, 0, 0, []), (1, .getfield 7, 10, 0, 0, []), (4, .iconst 3, 0, 0, 3, []), (5, .if_icmp .ne 6, 6, 0, 0, []), (8, .bipush (-4), 0, 0, (-4), []), (10, .ireturn, 0, 0, 0, []), (11, .aload_n 0, 0, 0, 0, []), (12, .getfield 19, 10, 3, 0, []), (15, .aload_n 0, 0, 0, 0, []), (16, .getfield 7, 10, 0, 0, []), (19, .iconst 0, 0, 0, 0, []), (20, .iastore, 0, 0, 0, []), (21, .aload_n 0, 0, 0, 0, []), (22, .getfield 23, 10, 4, 0, []), (25, .aload_n 0, 0, 0, 0, []), (26, .getfield 7, 10, 0, 0, []), (29, .iconst 0, 0, 0, 0, []), (30, .iastore, 0, 0, 0, []), (31, .aload_n 0, 0, 0, 0, []), (32, .dup, 0, 0, 0, []), (33, .getfield 7, 10, 0, 0, []), (36, .iconst 1, 0, 0, 1, []), (37, .iadd, 0, 0, 0, []), (38, .putfield 7, 10, 0, 0, []), (41, .aload_n 0, 0, 0, 0, []), (42, .getfield 7, 10, 0, 0, []), (45, .iconst 1, 0, 0, 1, []), (46, .isub, 0, 0, 0, []), (47, .ireturn, 0, 0, 0, [])]
-- 87 WhoIsWhoModel.shift(III)I
def am_c87 : List am_E := [(0, .aload_n 0, 0, 0, 0, []), (1, .iload_n 1, 0, 0, 0, []), (2, .invokevirtual 138, 83, 1, 0, []), (5, .ifCond .ne 5, 6, 0, 0, []), (8, .iconst (-1), 0, 0, (-1), []), (9, .ireturn, 0, 0, 0, []), (10, .aload_n 0, 0, 0, 0, []), (11, .iload_n 2, 0, 0, 0, []), (12, .bipush (-50), 0, 0, (-50), []), (14, .bipush 50, 0, 0, 50, []), (16, .invokevirtual 130, 82, 3, 0, []), (19, .ifCond .eq 15, 18, 0, 0, []), (22, .aload_n 0, 0, 0, 0, []), (23, .iload_n 3, 0, 0, 0, []), (24, .bipush (-50), 0, 0, (-50), []), (26, .bipush 50, 0, 0, 50, []), (28, .invokevirtual 130, 82, 3, 0, []), (31, .ifCond .ne 6, 20, 0, 0, []), (34, .bipush (-2), 0, 0, (-2), []), (36, .ireturn, 0, 0, 0, []), (37, .aload_n 0, 0, 0, 0, []), (38, .getfield 19, 10, 3, 0, []), (41, .iload_n 1, 0, 0, 0, []), (42, .iload_n 2, 0, 0, 0, []), (43, .iastore, 0, 0, 0, []), (44, .aload_n 0, 0, 0, 0, []), (45, .getfield 23, 10, 4, 0, []), (48, .iload_n 1, 0, 0, 0, []), (49, .iload_n 3, 0, 0, 0, []), (50, .iastore, 0, 0, 0, []), (51, .aload_n 0, 0, 0, 0, []), (52, .iconst 1, 0, 0, 1, []), (53, .putfield 59, 10, 16, 0, []), (56, .iconst 0, 0, 0, 0, []), (57, .ireturn, 0, 0, 0, [])]
-- 88 WhoIsWhoModel.dot(III)I
def am_c88 : List am_E := [(0, .aload_n 0, 0, 0, 0, []), (1, .iload_n 1, 0, 0, 0, []), (2, .sipush (-1000), 0, 0, (-1000), []), (5, .sipush 1000, 0, 0, 1000, []), (8, .invokevirtual 130, 82, 3, 0, []), (11, .ifCond .eq 28, 18, 0, 0, []), (14, .aload_n 0, 0, 0, 0, []), (15, .iload_n 2, 0, 0, 0, []), (16, .sipush (-1000), 0, 0, (-1000), []), (19, .sipush 1000, 0, 0, 1000, []), (22, .invokevirtual 130, 82, 3, 0, []), (25, .ifCond .eq 14, 18, 0, 0, []), (28, .aload_n 0, 0, 0, 0, []), (29, .iload_n 3, 0, 0, 0, []), (30, .iconst 0, 0, 0, 0, []), (31, .bipush 9, 0, 0, 9, []), (33, .invokevirtual 130, 82, 3, 0, []), (36, .ifCond .ne 6, 20, 0, 0, []), (39, .bipush (-2), 0, 0, (-2), []), (41, .ireturn, 0, 0, 0, []), (42, .aload_n 0, 0, 0, 0, []), (43, .getfield 16, 10, 2, 0, []), (46, .iconst 4, 0, 0, 4, []), (47, .if_icmp .ne 6, 26, 0, 0, []), (50, .bipush (-4), 0, 0, (-4), []), (52, .ireturn, 0, 0, 0, []), (53, .aload_n 0, 0, 0, 0, []), (54, .getfield 44, 10, 11, 0, []), (57, .aload_n 0, 0, 0, 0, []), (58, .getfield 16, 10, 2, 0, []), (61, .iload_n 1, 0, 0, 0, []), (62, .iastore, 0, 0, 0, []), (63, .aload_n 0, 0, 0, 0, []), (64, .getfield 47, 10, 12, 0, []), (67, .aload_n 0, 0, 0, 0, []), (68, .getfield 16, 10, 2, 0, []), (71, .iload_n 2, 0, 0, 0, []), (72, .iastore, 0, 0, 0, []), (73, .aload_n 0, 0, 0, 0, []), (74, .getfield 50, 10, 13, 0, []), (77, .aload_n 0, 0, 0, 0, []), (78, .getfield 16, 10, 2, 0, []), (81, .iload_n 3, 0, 0, 0, []), (82, .iastore, 0, 0, 0, []), (83, .aload_n 0, 0, 0, 0, []), (84, .dup, 0, 0, 0, []), (85, .getfield 16, 10, 2, 0, []), (88, .iconst 1, 0, 0, 1, []), (89, .iadd, 0, 0, 0, []), (90, .putfield 16, 10, 2, 0, []), (93, .aload_n 0, 0, 0, 0, []), (94, .getfield 16, 10, 2, 0, []), (97, .ireturn, 0, 0, 0, [])]
-- 89 WhoIsWhoModel.scan(II)I
def am_c89 : List am_E := [(0, .aload_n 0, 0, 0, 0, []), (1, .iload_n 1, 0, 0, 0, []), (2, .invokevirtual 138, 83, 1, 0, []), (5, .ifCond .ne 5, 6, 0, 0, []), (8, .iconst (-1), 0, 0, (-1), []), (9, .ireturn, 0, 0, 0, []), (10, .aload_n 0, 0, 0, 0, []), (11, .iload_n 2, 0, 0, 0, []), (12, .iconst 0, 0, 0, 0, []), (13, .sipush 999, 0, 0, 999, []), (16, .invokevirtual 130, 82, 3, 0, []), (19, .ifCond .ne 6, 14, 0, 0, []), (22, .bipush (-2), 0, 0, (-2), []), (24, .ireturn, 0, 0, 0, []), (25, .aload_n 0, 0, 0, 0, []), (26, .getfield 13, 10, 1, 0, []), (29, .bipush 12, 0, 0, 12, []), (31, .if_icmp .ne 6, 20, 0, 0, []), (34, .bipush (-4), 0, 0, (-4), []), (36, .ireturn, 0, 0, 0, []), (37, .aload_n 0, 0, 0, 0, []), (38, .getfield 26, 10, 5, 0, []), (41, .aload_n 0, 0, 0, 0, []), (42, .getfield 13, 10, 1, 0, []), (45, .iload_n 1, 0, 0, 0, []), (46, .iastore, 0, 0, 0, []), (47, .aload_n 0, 0, 0, 0, []), (48, .getfield 29, 10, 6, 0, []), (51, .aload_n 0, 0, 0, 0, []), (52, .getfield 13, 10, 1, 0, []), (55, .iload_n 2, 0, 0, 0, []), (56, .iastore, 0, 0, 0, []), (57, .aload_n 0, 0, 0, 0, []), (58, .getfield 32, 10, 7, 0, []), (61, .aload_n 0, 0, 0, 0, []), (62, .getfield 13, 10, 1, 0, []), (65, .aload_n 0, 0, 0, 0, []), (66, .getfield 16, 10, 2, 0, []), (69, .iastore, 0, 0, 0, []), (70, .iconst 0, 0, 0, 0, []), (71, .istore_n 3, 0, 0, 0, []), (72, .iload_n 3, 0, 0, 0, []), (73, .aload_n 0, 0, 0, 0, []), (74, .getfield 16, 10, 2, 0, []), (77, .if_icmp .ge 66, 86, 0, 0, []), (80, .aload_n 0, 0, 0, 0, []), (81, .getfield 35, 10, 8, 0, []), (84, .iconst 4, 0, 0, 4, []), (85, .aload_n 0, 0, 0, 0, []), (86, .getfield 13, 10, 1, 0, []), (89, .imul, 0, 0, 0, []), (90, .iload_n 3, 0, 0, 0, []), (91, .iadd, 0, 0, 0, []), (92, .aload_n 0, 0, 0, 0, []), (93, .getfield 44, 10, 11, 0, []), (96, .iload_n 3, 0, 0, 0, []), (97, .iaload, 0, 0, 0, []), (98, .iastore, 0, 0, 0, []), (99, .aload_n 0, 0, 0, 0, []), (100, .getfield 38, 10, 9, 0, []), (103, .iconst 4, 0, 0, 4, []), (104, .aload_n 0, 0, 0, 0, []), (105, .getfield 13, 10, 1, 0, []), (108, .imul, 0, 0, 0, []), (109, .iload_n 3, 0, 0, 0, []), (110, .iadd, 0, 0, 0, []), (111, .aload_n 0, 0, 0, 0, []), (112, .getfield 47, 10, 12, 0, []), (115, .iload_n 3, 0, 0, 0, []), (116, .iaload, 0, 0, 0, []), (117, .iastore, 0, 0, 0, []), (118, .aload_n 0, 0, 0, 0, []), (119, .getfield 41, 10, 10, 0, []), (122, .iconst 4, 0, 0, 4, []), (123, .aload_n 0, 0, 0, 0, []), (124, .getfield 13, 10, 1, 0, []), (127, .imul, 0, 0, 0, []), (128, .iload_n 3, 0, 0, 0, []), (129, .iadd, 0, 0, 0, []), (130, .aload_n 0, 0, 0, 0, []), (131, .getfield 50, 10, 13, 0, []), (134, .iload_n 3, 0, 0, 0, []), (135, .iaload, 0, 0, 0, []), (136, .iastore, 0, 0, 0, []), (137, .iinc 3 1, 0, 0, 1, []), (140, .goto (-68), 41, 0, 0, []), (143, .aload_n 0, 0, 0, 0, []), (144, .iconst 0, 0, 0, 0, []), (145, .putfield 16, 10, 2, 0, []), (148, .aload_n 0, 0, 0, 0, []), (149, .dup, 0, 0, 0, []), (150, .getfield 13, 10, 1, 0, []), (153, .iconst 1, 0, 0, 1, []), (154, .iadd, 0, 0, 0, []), (155, .putfield 13, 10, 1, 0, []), (158, .aload_n 0, 0, 0, 0, []), (159, .iconst 1, 0, 0, 1, []), (160, .putfield 59, 10, 16, 0, []), (163, .aload_n 0, 0, 0, 0, []), (164, .getfield 13, 10, 1, 0, []), (167, .iconst 1, 0, 0, 1, []), (168, .isub, 0, 0, 0, []), (169, .ireturn, 0, 0, 0, [])]
-- 90 WhoIsWhoModel.drop(I)I
def am_c90 : List am_E := [(0, .aload_n 0, 0, 0, 0, []), (1, .iload_n 1, 0, 0, 0, []), (2, .invokevirtual 134, 84, 1, 0, []), (5, .ifCond .ne 5, 6, 0, 0, []), (8, .iconst (-1), 0, 0, (-1), []), (9, .ireturn, 0, 0, 0, []), (10, .aload_n 0, 0, 0, 0, []), (11, .dup, 0, 0, 0, []), (12, .getfield 13, 10, 1, 0, []), (15, .iconst 1, 0, 0, 1, []), (16, .isub, 0, 0, 0, []), (17, .putfield 13, 10, 1, 0, []), (20, .iload_n 1, 0, 0, 0, []), (21, .istore_n 2, 0, 0, 0, []), (22, .iload_n 2, 0, 0, 0, []), (23, .aload_n 0, 0, 0, 0, []), (24, .getfield 13, 10, 1, 0, []), (27, .if_icmp .ge 130, 111, 0, 0, []), (30, .aload_n 0, 0, 0, 0, []), (31, .getfield 26, 10, 5, 0, []), (34, .iload_n 2, 0, 0, 0, []), (35, .aload_n 0, 0, 0, 0, []), (36, .getfield 26, 10, 5, 0, []), (39, .iload_n 2, 0, 0, 0, []), (40, .iconst 1, 0, 0, 1, []), (41, .iadd, 0, 0, 0, []), (42, .iaload, 0, 0, 0, []), (43, .iastore, 0, 0, 0, []), (44, .aload_n 0, 0, 0, 0, []), (45, .getfield 29, 10, 6, 0, []), (48, .iload_n 2, 0, 0, 0, []), (49, .aload_n 0, 0, 0, 0, []), (50, .getfield 29, 10, 6, 0, []), (53, .iload_n 2, 0, 0, 0, []), (54, .iconst 1, 0, 0, 1, []), (55, .iadd, 0, 0, 0, []), (56, .iaload, 0, 0, 0, []), (57, .iastore, 0, 0, 0, []), (58, .aload_n 0, 0, 0, 0, []), (59, .getfield 32, 10, 7, 0, []), (62, .iload_n 2, 0, 0, 0, []), (63, .aload_n 0, 0, 0, 0, []), (64, .getfield 32, 10, 7, 0, []), (67, .iload_n 2, 0, 0, 0, []), (68, .iconst 1, 0, 0, 1, []), (69, .iadd, 0, 0, 0, []), (70, .iaload, 0, 0, 0, []), (71, .iastore, 0, 0, 0, []), (72, .iconst 0, 0, 0, 0, []), (73, .istore_n 3, 0, 0, 0, []), (74, .iload_n 3, 0, 0, 0, []), (75, .iconst 4, 0, 0, 4, []), (76, .if_icmp .ge 75, 109, 0, 0, []), (79, .aload_n 0, 0, 0, 0, []), (80, .getfield 35, 10, 8, 0, []), (83, .iconst 4, 0, 0, 4, []), (84, .iload_n 2, 0, 0, 0, []), (85, .imul, 0, 0, 0, []), (86, .iload_n 3, 0, 0, 0, []), (87, .iadd, 0, 0, 0, []), (88, .aload_n 0, 0, 0, 0, []), (89, .getfield 35, 10, 8, 0, []), (92, .iconst 4, 0, 0, 4, []), (93, .iload_n 2, 0, 0, 0, []), (94, .imul, 0, 0, 0, []), (95, .iconst 4, 0, 0, 4, []), (96, .iadd, 0, 0, 0, []), (97, .iload_n 3, 0, 0, 0, []), (98, .iadd, 0, 0, 0, []), (99, .iaload, 0, 0, 0, []), (100, .iastore, 0, 0, 0, []), (101, .aload_n 0, 0, 0, 0, []), (102, .getfield 38, 10, 9, 0, []), (105, .iconst 4, 0, 0, 4, []), (106, .iload_n 2, 0, 0, 0, []), (107, .imul, 0, 0, 0, []), (108, .iload_n 3, 0, 0, 0, []), (109, .iadd, 0, 0, 0, []), (110, .aload_n 0, 0, 0, 0, []), (111, .getfield 38, 10, 9, 0, []), (114, .iconst 4, 0, 0, 4, []), (115, .iload_n 2, 0, 0, 0, []), (116, .imul, 0, 0, 0, []), (117, .iconst 4, 0, 0, 4, []), (118, .iadd, 0, 0, 0, []), (119, .iload_n 3, 0, 0, 0, []), (120, .iadd, 0, 0, 0, []), (121, .iaload, 0, 0, 0, []), (122, .iastore, 0, 0, 0, []), (123, .aload_n 0, 0, 0, 0, []), (124, .getfield 41, 10, 10, 0, []), (127, .iconst 4, 0, 0, 4, []), (128, .iload_n 2, 0, 0, 0, []), (129, .imul, 0, 0, 0, []), (130, .iload_n 3, 0, 0, 0, []), (131, .iadd, 0, 0, 0, []), (132, .aload_n 0, 0, 0, 0, []), (133, .getfield 41, 10, 10, 0, []), (136, .iconst 4, 0, 0, 4, []), (137, .iload_n 2, 0, 0, 0, []), (138, .imul, 0, 0, 0, []), (139, .iconst 4, 0, 0, 4, []), (140, .iadd, 0, 0, 0, []), (141, .iload_n 3, 0, 0, 0, []), (142, .iadd, 0, 0, 0, []), (143, .iaload, 0, 0, 0, []), (144, .iastore, 0, 0, 0, []), (145, .iinc 3 1, 0, 0, 1, []), (148, .goto (-74), 50, 0, 0, []), (151, .iinc 2 1, 0, 0, 1, []), (154, .goto (-132), 14, 0, 0, []), (157, .aload_n 0, 0, 0, 0, []), (158, .iconst 1, 0, 0, 1, []), (159, .putfield 59, 10, 16, 0, []), (162, .aload_n 0, 0, 0, 0, []), (163, .getfield 13, 10, 1, 0, []), (166, .ireturn, 0, 0, 0, [])]
-- 91 WhoIsWhoModel.kind(II)I
def am_c91 : List am_E := [(0, .aload_n 0, 0, 0, 0, []), (1, .iload_n 1, 0, 0, 0, []), (2, .iconst 1, 0, 0, 1, []), (3, .bipush 9, 0, 0, 9, []), (5, .invokevirtual 130, 82, 3, 0, []), (8, .ifCond .ne 5, 8, 0, 0, []), (11, .iconst (-1), 0, 0, (-1), []), (12, .ireturn, 0, 0, 0, []), (13, .aload_n 0, 0, 0, 0, []), (14, .iload_n 2, 0, 0, 0, []), (15, .iconst 0, 0, 0, 0, []), (16, .iconst 2, 0, 0, 2, []), (17, .invokevirtual 130, 82, 3, 0, []), (20, .ifCond .ne 6, 16, 0, 0, []), (23, .bipush (-2), 0, 0, (-2), []), (25, .ireturn, 0, 0, 0, []), (26, .aload_n 0, 0, 0, 0, []), (27, .getfield 53, 10, 14, 0, []), (30, .iload_n 1, 0, 0, 0, []), (31, .iaload, 0, 0, 0, []), (32, .istore_n 3, 0, 0, 0, []), (33, .aload_n 0, 0, 0, 0, []), (34, .getfield 53, 10, 14, 0, []), (37, .iload_n 1, 0, 0, 0, []), (38, .iload_n 2, 0, 0, 0, []), (39, .iastore, 0, 0, 0, []), (40, .aload_n 0, 0, 0, 0, []), (41, .iconst 1, 0, 0, 1, []), (42, .putfield 59, 10, 16, 0, []), (45, .iload_n 3, 0, 0, 0, []), (46, .ireturn, 0, 0, 0, [])]
-- 92 WhoIsWhoModel.rule(II)I
def am_c92 : List am_E := [(0, .aload_n 0, 0, 0, 0, []), (1, .iload_n 1, 0, 0, 0, []), (2, .iconst 0, 0, 0, 0, []), (3, .iconst 5, 0, 0, 5, []), (4, .invokevirtual 130, 82, 3, 0, []), (7, .ifCond .ne 5, 8, 0, 0, []), (10, .iconst (-1), 0, 0, (-1), []), (11, .ireturn, 0, 0, 0, []), (12, .aload_n 0, 0, 0, 0, []), (13, .iload_n 2, 0, 0, 0, []), (14, .iload_n 1, 0, 0, 0, []), (15, .iconst 4, 0, 0, 4, []), (16, .if_icmp .ge 7, 15, 0, 0, []), (19, .iconst 0, 0, 0, 0, []), (20, .goto 4, 16, 0, 0, []), (23, .iconst 1, 0, 0, 1, []), (24, .iload_n 1, 0, 0, 0, []), (25, .ifCond .ne 9, 20, 0, 0, []), (28, .sipush 500, 0, 0, 500, []), (31, .goto 24, 31, 0, 0, []), (34, .iload_n 1, 0, 0, 0, []), (35, .iconst 4, 0, 0, 4, []), (36, .if_icmp .ge 8, 25, 0, 0, []), (39, .ldc 141, 0, 0, 100000, []), (41, .goto 14, 31, 0, 0, []), (44, .iload_n 1, 0, 0, 0, []), (45, .iconst 4, 0, 0, 4, []), (46, .if_icmp .ne 8, 30, 0, 0, []), (49, .bipush 9, 0, 0, 9, []), (51, .goto 4, 31, 0, 0, []), (54, .iconst 4, 0, 0, 4, []), (55, .invokevirtual 130, 82, 3, 0, []), (58, .ifCond .ne 6, 35, 0, 0, []), (61, .bipush (-2), 0, 0, (-2), []), (63, .ireturn, 0, 0, 0, []), (64, .aload_n 0, 0, 0, 0, []), (65, .getfield 56, 10, 15, 0, []), (68, .iload_n 1, 0, 0, 0, []), (69, .iaload, 0, 0, 0, []), (70, .istore_n 3, 0, 0, 0, []), (71, .aload_n 0, 0, 0, 0, []), (72, .getfield 56, 10, 15, 0, []), (75, .iload_n 1, 0, 0, 0, []), (76, .iload_n 2, 0, 0, 0, []), (77, .iastore, 0, 0, 0, []), (78, .aload_n 0, 0, 0, 0, []), (79, .iconst 1, 0, 0, 1, []), (80, .putfield 59, 10, 16, 0, []), (83, .iload_n 3, 0, 0, 0, []), (84, .ireturn, 0, 0, 0, [])]
-- 93 WhoIsWhoModel.sort()V
def am_c93 : List am_E := [(0, .iconst 0, 0, 0, 0, []), (1, .istore_n 1, 0, 0, 0, []), (2, .iload_n 1, 0, 0, 0, []), (3, .aload_n 0, 0, 0, 0, []), (4, .getfield 13, 10, 1, 0, []), (7, .if_icmp .ge 64, 43, 0, 0, []), (10, .iload_n 1, 0, 0, 0, []), (11, .istore_n 2, 0, 0, 0, []), (12, .iload_n 2, 0, 0, 0, []), (13, .ifCond .le 45, 36, 0, 0, []), (16, .aload_n 0, 0, 0, 0, []), (17, .getfield 29, 10, 6, 0, []), (20, .aload_n 0, 0, 0, 0, []), (21, .getfield 63, 10, 17, 0, []), (24, .iload_n 2, 0, 0, 0, []), (25, .iconst 1, 0, 0, 1, []), (26, .isub, 0, 0, 0, []), (27, .iaload, 0, 0, 0, []), (28, .iaload, 0, 0, 0, []), (29, .aload_n 0, 0, 0, 0, []), (30, .getfield 29, 10, 6, 0, []), (33, .iload_n 1, 0, 0, 0, []), (34, .iaload, 0, 0, 0, []), (35, .if_icmp .le 23, 36, 0, 0, []), (38, .aload_n 0, 0, 0, 0, []), (39, .getfield 63, 10, 17, 0, []), (42, .iload_n 2, 0, 0, 0, []), (43, .aload_n 0, 0, 0, 0, []), (44, .getfield 63, 10, 17, 0, []), (47, .iload_n 2, 0, 0, 0, []), (48, .iconst 1, 0, 0, 1, []), (49, .isub, 0, 0, 0, []), (50, .iaload, 0, 0, 0, []), (51, .iastore, 0, 0, 0, []), (52, .iinc 2 (-1), 0, 0, (-1), []), (55, .goto (-43), 8, 0, 0, []), (58, .aload_n 0, 0, 0, 0, []), (59, .getfield 63, 10, 17, 0, []), (62, .iload_n 2, 0, 0, 0, []), (63, .iload_n 1, 0, 0, 0, []), (64, .iastore, 0, 0, 0, []), (65, .iinc 1 1, 0, 0, 1, []), (68, .goto (-66), 2, 0, 0, []), (71, .return_, 2, 0, 0, [])]
-- 94 WhoIsWhoModel.rightX(II)I
def am_c94 : List am_E := [(0, .aload_n 0, 0, 0, 0, []), (1, .getfield 35, 10, 8, 0, []), (4, .iconst 4, 0, 0, 4, []), (5, .iload_n 1, 0, 0, 0, []), (6, .imul, 0, 0, 0, []), (7, .iload_n 2, 0, 0, 0, []), (8, .iadd, 0, 0, 0, []), (9, .iaload, 0, 0, 0, []), (10, .aload_n 0, 0, 0, 0, []), (11, .getfield 19, 10, 3, 0, []), (14, .aload_n 0, 0, 0, 0, []), (15, .getfield 26, 10, 5, 0, []), (18, .iload_n 1, 0, 0, 0, []), (19, .iaload, 0, 0, 0, []), (20, .iaload, 0, 0, 0, []), (21, .iadd, 0, 0, 0, []), (22, .ireturn, 0, 0, 0, [])]
-- 95 WhoIsWhoModel.rightY(II)I
def am_c95 : List am_E := [(0, .aload_n 0, 0, 0, 0, []), (1, .getfield 38, 10, 9, 0, []), (4, .iconst 4, 0, 0, 4, []), (5, .iload_n 1, 0, 0, 0, []), (6, .imul, 0, 0, 0, []), (7, .iload_n 2, 0, 0, 0, []), (8, .iadd, 0, 0, 0, []), (9, .iaload, 0, 0, 0, []), (10, .aload_n 0, 0, 0, 0, []), (11, .getfield 23, 10, 4, 0, []), (14, .aload_n 0, 0, 0, 0, []), (15, .getfield 26, 10, 5, 0, []), (18, .iload_n 1, 0, 0, 0, []), (19, .iaload, 0, 0, 0, []), (20, .iaload, 0, 0, 0, []), (21, .iadd, 0, 0, 0, []), (22, .ireturn, 0, 0, 0, [])]
-- 96 WhoIsWhoModel.foretold(IIZ)J
def am_c96 : List am_E := [(0, .iload_n 2, 0, 0, 0, []), (1, .aload_n 0, 0, 0, 0, []), (2, .getfield 93, 10, 27, 0, []), (5, .iload_n 1, 0, 0, 0, []), (6, .iaload, 0, 0, 0, []), (7, .isub, 0, 0, 0, []), (8, .i2l, 0, 0, 0, []), (9, .lstore 4, 0, 0, 0, []), (11, .iload_n 3, 0, 0, 0, []), (12, .ifCond .eq 13, 16, 0, 0, []), (15, .aload_n 0, 0, 0, 0, []), (16, .getfield 84, 10, 24, 0, []), (19, .iload_n 1, 0, 0, 0, []), (20, .iaload, 0, 0, 0, []), (21, .i2l, 0, 0, 0, []), (22, .goto 10, 21, 0, 0, []), (25, .aload_n 0, 0, 0, 0, []), (26, .getfield 81, 10, 23, 0, []), (29, .iload_n 1, 0, 0, 0, []), (30, .iaload, 0, 0, 0, []), (31, .i2l, 0, 0, 0, []), (32, .lstore 6, 0, 0, 0, []), (34, .iload_n 3, 0, 0, 0, []), (35, .ifCond .eq 13, 30, 0, 0, []), (38, .aload_n 0, 0, 0, 0, []), (39, .getfield 90, 10, 26, 0, []), (42, .iload_n 1, 0, 0, 0, []), (43, .iaload, 0, 0, 0, []), (44, .i2l, 0, 0, 0, []), (45, .goto 10, 35, 0, 0, []), (48, .aload_n 0, 0, 0, 0, []), (49, .getfield 87, 10, 25, 0, []), (52, .iload_n 1, 0, 0, 0, []), (53, .iaload, 0, 0, 0, []), (54, .i2l, 0, 0, 0, []), (55, .lstore 8, 0, 0, 0, []), (57, .aload_n 0, 0, 0, 0, []), (58, .getfield 53, 10, 14, 0, []), (61, .aload_n 0, 0, 0, 0, []), (62, .getfield 102, 10, 30, 0, []), (65, .iload_n 1, 0, 0, 0, []), (66, .iaload, 0, 0, 0, []), (67, .iaload, 0, 0, 0, []), (68, .istore 10, 0, 0, 0, []), (70, .iload 10, 0, 0, 0, []), (72, .ifCond .ne 14, 52, 0, 0, []), (75, .lload 6, 0, 0, 0, []), (77, .lload 4, 0, 0, 0, []), (79, .lload 8, 0, 0, 0, []), (81, .lmul, 0, 0, 0, []), (82, .ladd, 0, 0, 0, []), (83, .goto 22, 62, 0, 0, []), (86, .iload 10, 0, 0, 0, []), (88, .iconst 1, 0, 0, 1, []), (89, .if_icmp .ne 8, 57, 0, 0, []), (92, .lload 6, 0, 0, 0, []), (94, .goto 11, 62, 0, 0, []), (97, .lload 6, 0, 0, 0, []), (99, .lload 4, 0, 0, 0, []), (101, .lload 8, 0, 0, 0, []), (103, .lmul, 0, 0, 0, []), (104, .lsub, 0, 0, 0, []), (105, .lreturn, 3, 0, 0, [])]
-- 97 WhoIsWhoModel.findJoins(II)V
def am_c97 : List am_E := [(0, .iconst 0, 0, 0, 0, []), (1, .istore_n 3, 0, 0, 0, []), (2, .iload_n 3, 0, 0, 0, []), (3, .aload_n 0, 0, 0, 0, []), (4, .getfield 32, 10, 7, 0, []), (7, .iload_n 2, 0, 0, 0, []), (8, .iaload, 0, 0, 0, []), (9, .if_icmp .ge 241, 152, 0, 0, []), (12, .iconst 0, 0, 0, 0, []), (13, .istore 4, 0, 0, 0, []), (15, .iload 4, 0, 0, 0, []), (17, .bipush 6, 0, 0, 6, []), (19, .if_icmp .ge 189, 126, 0, 0, []), (22, .aload_n 0, 0, 0, 0, []), (23, .getfield 109, 10, 32, 0, []), (26, .bipush 8, 0, 0, 8, []), (28, .iload_n 3, 0, 0, 0, []), (29, .imul, 0, 0, 0, []), (30, .iload 4, 0, 0, 0, []), (32, .iadd, 0, 0, 0, []), (33, .iconst (-1), 0, 0, (-1), []), (34, .iastore, 0, 0, 0, []), (35, .bipush 6, 0, 0, 6, []), (37, .iload_n 1, 0, 0, 0, []), (38, .imul, 0, 0, 0, []), (39, .iload 4, 0, 0, 0, []), (41, .iadd, 0, 0, 0, []), (42, .istore 5, 0, 0, 0, []), (44, .iload 4, 0, 0, 0, []), (46, .aload_n 0, 0, 0, 0, []), (47, .getfield 75, 10, 21, 0, []), (50, .iload_n 1, 0, 0, 0, []), (51, .iaload, 0, 0, 0, []), (52, .if_icmp .ge 150, 124, 0, 0, []), (55, .aload_n 0, 0, 0, 0, []), (56, .getfield 105, 10, 31, 0, []), (59, .iload 5, 0, 0, 0, []), (61, .baload, 0, 0, 0, []), (62, .ifCond .eq 6, 40, 0, 0, []), (65, .goto 137, 124, 0, 0, []), (68, .aload_n 0, 0, 0, 0, []), (69, .iload_n 2, 0, 0, 0, []), (70, .iload_n 3, 0, 0, 0, []), (71, .invokevirtual 142, 94, 2, 0, []), (74, .i2l, 0, 0, 0, []), (75, .aload_n 0, 0, 0, 0, []), (76, .iload 5, 0, 0, 0, []), (78, .aload_n 0, 0, 0, 0, []), (79, .getfield 29, 10, 6, 0, []), (82, .iload_n 2, 0, 0, 0, []), (83, .iaload, 0, 0, 0, []), (84, .iconst 0, 0, 0, 0, []), (85, .invokevirtual 146, 96, 3, 0, []), (88, .lsub, 0, 0, 0, []), (89, .lstore 6, 0, 0, 0, []), (91, .aload_n 0, 0, 0, 0, []), (92, .iload_n 2, 0, 0, 0, []), (93, .iload_n 3, 0, 0, 0, []), (94, .invokevirtual 150, 95, 2, 0, []), (97, .i2l, 0, 0, 0, []), (98, .aload_n 0, 0, 0, 0, []), (99, .iload 5, 0, 0, 0, []), (101, .aload_n 0, 0, 0, 0, []), (102, .getfield 29, 10, 6, 0, []), (105, .iload_n 2, 0, 0, 0, []), (106, .iaload, 0, 0, 0, []), (107, .iconst 1, 0, 0, 1, []), (108, .invokevirtual 146, 96, 3, 0, []), (111, .lsub, 0, 0, 0, []), (112, .lstore 8, 0, 0, 0, []), (114, .lload 6, 0, 0, 0, []), (116, .lload 6, 0, 0, 0, []), (118, .lmul, 0, 0, 0, []), (119, .lload 8, 0, 0, 0, []), (121, .lload 8, 0, 0, 0, []), (123, .lmul, 0, 0, 0, []), (124, .ladd, 0, 0, 0, []), (125, .lstore 10, 0, 0, 0, []), (127, .aload_n 0, 0, 0, 0, []), (128, .getfield 41, 10, 10, 0, []), (131, .iconst 4, 0, 0, 4, []), (132, .iload_n 2, 0, 0, 0, []), (133, .imul, 0, 0, 0, []), (134, .iload_n 3, 0, 0, 0, []), (135, .iadd, 0, 0, 0, []), (136, .iaload, 0, 0, 0, []), (137, .istore 12, 0, 0, 0, []), (139, .lload 10, 0, 0, 0, []), (141, .aload_n 0, 0, 0, 0, []), (142, .getfield 56, 10, 15, 0, []), (145, .iconst 0, 0, 0, 0, []), (146, .iaload, 0, 0, 0, []), (147, .i2l, 0, 0, 0, []), (148, .aload_n 0, 0, 0, 0, []), (149, .getfield 56, 10, 15, 0, []), (152, .iconst 0, 0, 0, 0, []), (153, .iaload, 0, 0, 0, []), (154, .i2l, 0, 0, 0, []), (155, .lmul, 0, 0, 0, []), (156, .lcmp, 0, 0, 0, []), (157, .ifCond .gt 45, 124, 0, 0, []), (160, .iload 12, 0, 0, 0, []), (162, .ifCond .eq 25, 114, 0, 0, []), (165, .aload_n 0, 0, 0, 0, []), (166, .getfield 102, 10, 30, 0, []), (169, .iload 5, 0, 0, 0, []), (171, .iaload, 0, 0, 0, []), (172, .ifCond .eq 15, 114, 0, 0, []), (175, .iload 12, 0, 0, 0, []), (177, .aload_n 0, 0, 0, 0, []), (178, .getfield 102, 10, 30, 0, []), (181, .iload 5, 0, 0, 0, []), (183, .iaload, 0, 0, 0, []), (184, .if_icmp .ne 18, 124, 0, 0, []), (187, .aload_n 0, 0, 0, 0, []), (188, .getfield 109, 10, 32, 0, []), (191, .bipush 8, 0, 0, 8, []), (193, .iload_n 3, 0, 0, 0, []), (194, .imul, 0, 0, 0, []), (195, .iload 4, 0, 0, 0, []), (197, .iadd, 0, 0, 0, []), (198, .lload 10, 0, 0, 0, []), (200, .l2i, 0, 0, 0, []), (201, .iastore, 0, 0, 0, []), (202, .iinc 4 1, 0, 0, 1, []), (205, .goto (-190), 10, 0, 0, []), (208, .aload_n 0, 0, 0, 0, []), (209, .getfield 109, 10, 32, 0, []), (212, .bipush 8, 0, 0, 8, []), (214, .iload_n 3, 0, 0, 0, []), (215, .imul, 0, 0, 0, []), (216, .bipush 6, 0, 0, 6, []), (218, .iadd, 0, 0, 0, []), (219, .aload_n 0, 0, 0, 0, []), (220, .getfield 56, 10, 15, 0, []), (223, .iconst 2, 0, 0, 2, []), (224, .iaload, 0, 0, 0, []), (225, .iastore, 0, 0, 0, []), (226, .aload_n 0, 0, 0, 0, []), (227, .getfield 109, 10, 32, 0, []), (230, .bipush 8, 0, 0, 8, []), (232, .iload_n 3, 0, 0, 0, []), (233, .imul, 0, 0, 0, []), (234, .bipush 7, 0, 0, 7, []), (236, .iadd, 0, 0, 0, []), (237, .aload_n 0, 0, 0, 0, []), (238, .getfield 56, 10, 15, 0, []), (241, .iconst 3, 0, 0, 3, []), (242, .iaload, 0, 0, 0, []), (243, .iastore, 0, 0, 0, []), (244, .iinc 3 1, 0, 0, 1, []), (247, .goto (-245), 2, 0, 0, []), (250, .return_, 2, 0, 0, [])]
-- 98 WhoIsWhoModel.digit(III)I
def am_c98 : List am_E := [(0, .iload_n 1, 0, 0, 0, []), (1, .iconst 3, 0, 0, 3, []), (2, .iload_n 2, 0, 0, 0, []), (3, .iconst 1, 0, 0, 1, []), (4, .isub, 0, 0, 0, []), (5, .iload_n 3, 0, 0, 0, []), (6, .isub, 0, 0, 0, []), (7, .imul, 0, 0, 0, []), (8, .ishr, 0, 0, 0, []), (9, .bipush 7, 0, 0, 7, []), (11, .iand, 0, 0, 0, []), (12, .ireturn, 0, 0, 0, [])]
-- 99 WhoIsWhoModel.costOf(III)I
def am_c99 : List am_E := [(0, .aload_n 0, 0, 0, 0, []), (1, .getfield 32, 10, 7, 0, []), (4, .iload_n 2, 0, 0, 0, []), (5, .iaload, 0, 0, 0, []), (6, .istore 4, 0, 0, 0, []), (8, .iconst 0, 0, 0, 0, []), (9, .istore 5, 0, 0, 0, []), (11, .iconst 0, 0, 0, 0, []), (12, .istore 6, 0, 0, 0, []), (14, .aload_n 0, 0, 0, 0, []), (15, .getfield 75, 10, 21, 0, []), (18, .iload_n 1, 0, 0, 0, []), (19, .iaload, 0, 0, 0, []), (20, .istore 7, 0, 0, 0, []), (22, .iconst 0, 0, 0, 0, []), (23, .istore 8, 0, 0, 0, []), (25, .iload 8, 0, 0, 0, []), (27, .iload 4, 0, 0, 0, []), (29, .if_icmp .ge 125, 85, 0, 0, []), (32, .aload_n 0, 0, 0, 0, []), (33, .iload_n 3, 0, 0, 0, []), (34, .iload 4, 0, 0, 0, []), (36, .iload 8, 0, 0, 0, []), (38, .invokevirtual 153, 98, 3, 0, []), (41, .istore 9, 0, 0, 0, []), (43, .aload_n 0, 0, 0, 0, []), (44, .getfield 109, 10, 32, 0, []), (47, .bipush 8, 0, 0, 8, []), (49, .iload 8, 0, 0, 0, []), (51, .imul, 0, 0, 0, []), (52, .iload 9, 0, 0, 0, []), (54, .iadd, 0, 0, 0, []), (55, .iaload, 0, 0, 0, []), (56, .ifCond .lt 35, 50, 0, 0, []), (59, .iload 9, 0, 0, 0, []), (61, .bipush 6, 0, 0, 6, []), (63, .if_icmp .ge 14, 44, 0, 0, []), (66, .iload 6, 0, 0, 0, []), (68, .iload 9, 0, 0, 0, []), (70, .ishr, 0, 0, 0, []), (71, .iconst 1, 0, 0, 1, []), (72, .iand, 0, 0, 0, []), (73, .iconst 1, 0, 0, 1, []), (74, .if_icmp .eq 17, 50, 0, 0, []), (77, .iload 9, 0, 0, 0, []), (79, .bipush 6, 0, 0, 6, []), (81, .if_icmp .ne 12, 52, 0, 0, []), (84, .iload 7, 0, 0, 0, []), (86, .bipush 6, 0, 0, 6, []), (88, .if_icmp .ne 5, 52, 0, 0, []), (91, .iconst (-1), 0, 0, (-1), []), (92, .ireturn, 0, 0, 0, []), (93, .iload 6, 0, 0, 0, []), (95, .iload 9, 0, 0, 0, []), (97, .bipush 6, 0, 0, 6, []), (99, .if_icmp .ge 10, 60, 0, 0, []), (102, .iconst 1, 0, 0, 1, []), (103, .iload 9, 0, 0, 0, []), (105, .ishl, 0, 0, 0, []), (106, .goto 4, 61, 0, 0, []), (109, .iconst 0, 0, 0, 0, []), (110, .ior, 0, 0, 0, []), (111, .istore 6, 0, 0, 0, []), (113, .iload 7, 0, 0, 0, []), (115, .iload 9, 0, 0, 0, []), (117, .bipush 6, 0, 0, 6, []), (119, .if_icmp .ne 7, 69, 0, 0, []), (122, .iconst 1, 0, 0, 1, []), (123, .goto 4, 70, 0, 0, []), (126, .iconst 0, 0, 0, 0, []), (127, .iadd, 0, 0, 0, []), (128, .istore 7, 0, 0, 0, []), (130, .iload 5, 0, 0, 0, []), (132, .aload_n 0, 0, 0, 0, []), (133, .getfield 109, 10, 32, 0, []), (136, .bipush 8, 0, 0, 8, []), (138, .iload 8, 0, 0, 0, []), (140, .imul, 0, 0, 0, []), (141, .iload 9, 0, 0, 0, []), (143, .iadd, 0, 0, 0, []), (144, .iaload, 0, 0, 0, []), (145, .iadd, 0, 0, 0, []), (146, .istore 5, 0, 0, 0, []), (148, .iinc 8 1, 0, 0, 1, []), (151, .goto (-126), 16, 0, 0, []), (154, .iconst 0, 0, 0, 0, []), (155, .istore 8, 0, 0, 0, []), (157, .iload 8, 0, 0, 0, []), (159, .aload_n 0, 0, 0, 0, []), (160, .getfield 75, 10, 21, 0, []), (163, .iload_n 1, 0, 0, 0, []), (164, .iaload, 0, 0, 0, []), (165, .if_icmp .ge 49, 119, 0, 0, []), (168, .iload 5, 0, 0, 0, []), (170, .aload_n 0, 0, 0, 0, []), (171, .getfield 105, 10, 31, 0, []), (174, .bipush 6, 0, 0, 6, []), (176, .iload_n 1, 0, 0, 0, []), (177, .imul, 0, 0, 0, []), (178, .iload 8, 0, 0, 0, []), (180, .iadd, 0, 0, 0, []), (181, .baload, 0, 0, 0, []), (182, .ifCond .ne 22, 114, 0, 0, []), (185, .iload 6, 0, 0, 0, []), (187, .iload 8, 0, 0, 0, []), (189, .ishr, 0, 0, 0, []), (190, .iconst 1, 0, 0, 1, []), (191, .iand, 0, 0, 0, []), (192, .ifCond .ne 12, 114, 0, 0, []), (195, .aload_n 0, 0, 0, 0, []), (196, .getfield 56, 10, 15, 0, []), (199, .iconst 1, 0, 0, 1, []), (200, .iaload, 0, 0, 0, []), (201, .goto 4, 115, 0, 0, []), (204, .iconst 0, 0, 0, 0, []), (205, .iadd, 0, 0, 0, []), (206, .istore 5, 0, 0, 0, []), (208, .iinc 8 1, 0, 0, 1, []), (211, .goto (-54), 87, 0, 0, []), (214, .iload 5, 0, 0, 0, []), (216, .ireturn, 0, 0, 0, [])]
-- 100 WhoIsWhoModel.offer(III)V
def am_c100 : List am_E := [(0, .aload_n 0, 0, 0, 0, []), (1, .getfield 112, 10, 33, 0, []), (4, .istore 4, 0, 0, 0, []), (6, .iload 4, 0, 0, 0, []), (8, .ifCond .le 76, 48, 0, 0, []), (11, .aload_n 0, 0, 0, 0, []), (12, .getfield 115, 10, 34, 0, []), (15, .iload 4, 0, 0, 0, []), (17, .iconst 1, 0, 0, 1, []), (18, .isub, 0, 0, 0, []), (19, .iaload, 0, 0, 0, []), (20, .iload_n 1, 0, 0, 0, []), (21, .if_icmp .le 63, 48, 0, 0, []), (24, .iload 4, 0, 0, 0, []), (26, .iconst 4, 0, 0, 4, []), (27, .if_icmp .ge 51, 46, 0, 0, []), (30, .aload_n 0, 0, 0, 0, []), (31, .getfield 115, 10, 34, 0, []), (34, .iload 4, 0, 0, 0, []), (36, .aload_n 0, 0, 0, 0, []), (37, .getfield 115, 10, 34, 0, []), (40, .iload 4, 0, 0, 0, []), (42, .iconst 1, 0, 0, 1, []), (43, .isub, 0, 0, 0, []), (44, .iaload, 0, 0, 0, []), (45, .iastore, 0, 0, 0, []), (46, .aload_n 0, 0, 0, 0, []), (47, .getfield 118, 10, 35, 0, []), (50, .iload 4, 0, 0, 0, []), (52, .aload_n 0, 0, 0, 0, []), (53, .getfield 118, 10, 35, 0, []), (56, .iload 4, 0, 0, 0, []), (58, .iconst 1, 0, 0, 1, []), (59, .isub, 0, 0, 0, []), (60, .iaload, 0, 0, 0, []), (61, .iastore, 0, 0, 0, []), (62, .aload_n 0, 0, 0, 0, []), (63, .getfield 121, 10, 36, 0, []), (66, .iload 4, 0, 0, 0, []), (68, .aload_n 0, 0, 0, 0, []), (69, .getfield 121, 10, 36, 0, []), (72, .iload 4, 0, 0, 0, []), (74, .iconst 1, 0, 0, 1, []), (75, .isub, 0, 0, 0, []), (76, .iaload, 0, 0, 0, []), (77, .iastore, 0, 0, 0, []), (78, .iinc 4 (-1), 0, 0, (-1), []), (81, .goto (-75), 3, 0, 0, []), (84, .iload 4, 0, 0, 0, []), (86, .aload_n 0, 0, 0, 0, []), (87, .getfield 56, 10, 15, 0, []), (90, .iconst 5, 0, 0, 5, []), (91, .iaload, 0, 0, 0, []), (92, .if_icmp .lt 4, 55, 0, 0, []), (95, .return_, 2, 0, 0, []), (96, .aload_n 0, 0, 0, 0, []), (97, .getfield 115, 10, 34, 0, []), (100, .iload 4, 0, 0, 0, []), (102, .iload_n 1, 0, 0, 0, []), (103, .iastore, 0, 0, 0, []), (104, .aload_n 0, 0, 0, 0, []), (105, .getfield 118, 10, 35, 0, []), (108, .iload 4, 0, 0, 0, []), (110, .iload_n 2, 0, 0, 0, []), (111, .iastore, 0, 0, 0, []), (112, .aload_n 0, 0, 0, 0, []), (113, .getfield 121, 10, 36, 0, []), (116, .iload 4, 0, 0, 0, []), (118, .iload_n 3, 0, 0, 0, []), (119, .iastore, 0, 0, 0, []), (120, .aload_n 0, 0, 0, 0, []), (121, .aload_n 0, 0, 0, 0, []), (122, .getfield 112, 10, 33, 0, []), (125, .aload_n 0, 0, 0, 0, []), (126, .getfield 56, 10, 15, 0, []), (129, .iconst 5, 0, 0, 5, []), (130, .iaload, 0, 0, 0, []), (131, .if_icmp .ge 12, 83, 0, 0, []), (134, .aload_n 0, 0, 0, 0, []), (135, .getfield 112, 10, 33, 0, []), (138, .iconst 1, 0, 0, 1, []), (139, .iadd, 0, 0, 0, []), (140, .goto 7, 85, 0, 0, []), (143, .aload_n 0, 0, 0, 0, []), (144, .getfield 112, 10, 33, 0, []), (147, .putfield 112, 10, 33, 0, []), (150, .return_, 2, 0, 0, [])]
-- 101 WhoIsWhoModel.copyWorld(II)V
def am_c101 : List am_E := [(0, .aload_n 0, 0, 0, 0, []), (1, .getfield 72, 10, 20, 0, []), (4, .iload_n 2, 0, 0, 0, []), (5, .aload_n 0, 0, 0, 0, []), (6, .getfield 72, 10, 20, 0, []), (9, .iload_n 1, 0, 0, 0, []), (10, .iaload, 0, 0, 0, []), (11, .iastore, 0, 0, 0, []), (12, .aload_n 0, 0, 0, 0, []), (13, .getfield 75, 10, 21, 0, []), (16, .iload_n 2, 0, 0, 0, []), (17, .aload_n 0, 0, 0, 0, []), (18, .getfield 75, 10, 21, 0, []), (21, .iload_n 1, 0, 0, 0, []), (22, .iaload, 0, 0, 0, []), (23, .iastore, 0, 0, 0, []), (24, .iconst 0, 0, 0, 0, []), (25, .istore_n 3, 0, 0, 0, []), (26, .iload_n 3, 0, 0, 0, []), (27, .bipush 48, 0, 0, 48, []), (29, .if_icmp .ge 31, 39, 0, 0, []), (32, .aload_n 0, 0, 0, 0, []), (33, .getfield 78, 10, 22, 0, []), (36, .bipush 48, 0, 0, 48, []), (38, .iload_n 2, 0, 0, 0, []), (39, .imul, 0, 0, 0, []), (40, .iload_n 3, 0, 0, 0, []), (41, .iadd, 0, 0, 0, []), (42, .aload_n 0, 0, 0, 0, []), (43, .getfield 78, 10, 22, 0, []), (46, .bipush 48, 0, 0, 48, []), (48, .iload_n 1, 0, 0, 0, []), (49, .imul, 0, 0, 0, []), (50, .iload_n 3, 0, 0, 0, []), (51, .iadd, 0, 0, 0, []), (52, .iaload, 0, 0, 0, []), (53, .iastore, 0, 0, 0, []), (54, .iinc 3 1, 0, 0, 1, []), (57, .goto (-31), 18, 0, 0, []), (60, .iconst 0, 0, 0, 0, []), (61, .istore_n 3, 0, 0, 0, []), (62, .iload_n 3, 0, 0, 0, []), (63, .bipush 6, 0, 0, 6, []), (65, .if_icmp .ge 151, 130, 0, 0, []), (68, .bipush 6, 0, 0, 6, []), (70, .iload_n 1, 0, 0, 0, []), (71, .imul, 0, 0, 0, []), (72, .iload_n 3, 0, 0, 0, []), (73, .iadd, 0, 0, 0, []), (74, .istore 4, 0, 0, 0, []), (76, .bipush 6, 0, 0, 6, []), (78, .iload_n 2, 0, 0, 0, []), (79, .imul, 0, 0, 0, []), (80, .iload_n 3, 0, 0, 0, []), (81, .iadd, 0, 0, 0, []), (82, .istore 5, 0, 0, 0, []), (84, .aload_n 0, 0, 0, 0, []), (85, .getfield 81, 10, 23, 0, []), (88, .iload 5, 0, 0, 0, []), (90, .aload_n 0, 0, 0, 0, []), (91, .getfield 81, 10, 23, 0, []), (94, .iload 4, 0, 0, 0, []), (96, .iaload, 0, 0, 0, []), (97, .iastore, 0, 0, 0, []), (98, .aload_n 0, 0, 0, 0, []), (99, .getfield 84, 10, 24, 0, []), (102, .iload 5, 0, 0, 0, []), (104, .aload_n 0, 0, 0, 0, []), (105, .getfield 84, 10, 24, 0, []), (108, .iload 4, 0, 0, 0, []), (110, .iaload, 0, 0, 0, []), (111, .iastore, 0, 0, 0, []), (112, .aload_n 0, 0, 0, 0, []), (113, .getfield 87, 10, 25, 0, []), (116, .iload 5, 0, 0, 0, []), (118, .aload_n 0, 0, 0, 0, []), (119, .getfield 87, 10, 25, 0, []), (122, .iload 4, 0, 0, 0, []), (124, .iaload, 0, 0, 0, []), (125, .iastore, 0, 0, 0, []), (126, .aload_n 0, 0, 0, 0, []), (127, .getfield 90, 10, 26, 0, []), (130, .iload 5, 0, 0, 0, []), (132, .aload_n 0, 0, 0, 0, []), (133, .getfield 90, 10, 26, 0, []), (136, .iload 4, 0, 0, 0, []), (138, .iaload, 0, 0, 0, []), (139, .iastore, 0, 0, 0, []), (140, .aload_n 0, 0, 0, 0, []), (141, .getfield 93, 10, 27, 0, []), (144, .iload 5, 0, 0, 0, []), (146, .aload_n 0, 0, 0, 0, []), (147, .getfield 93, 10, 27, 0, []), (150, .iload 4, 0, 0, 0, []), (152, .iaload, 0, 0, 0, []), (153, .iastore, 0, 0, 0, []), (154, .aload_n 0, 0, 0, 0, []), (155, .getfield 96, 10, 28, 0, []), (158, .iload 5, 0, 0, 0, []), (160, .aload_n 0, 0, 0, 0, []), (161, .getfield 96, 10, 28, 0, []), (164, .iload 4, 0, 0, 0, []), (166, .iaload, 0, 0, 0, []), (167, .iastore, 0, 0, 0, []), (168, .aload_n 0, 0, 0, 0, []), (169, .getfield 99, 10, 29, 0, []), (172, .iload 5, 0, 0, 0, []), (174, .aload_n 0, 0, 0, 0, []), (175, .getfield 99, 10, 29, 0, []), (178, .iload 4, 0, 0, 0, []), (180, .iaload, 0, 0, 0, []), (181, .iastore, 0, 0, 0, []), (182, .aload_n 0, 0, 0, 0, []), (183, .getfield 102, 10, 30, 0, []), (186, .iload 5, 0, 0, 0, []), (188, .aload_n 0, 0, 0, 0, []), (189, .getfield 102, 10, 30, 0, []), (192, .iload 4, 0, 0, 0, []), (194, .iaload, 0, 0, 0, []), (195, .iastore, 0, 0, 0, []), (196, .aload_n 0, 0, 0, 0, []), (197, .getfield 105, 10, 31, 0, []), (200, .iload 5, 0, 0, 0, []), (202, .aload_n 0, 0, 0, 0, []), (203, .getfield 105, 10, 31, 0, []), (206, .iload 4, 0, 0, 0, []), (208, .baload, 0, 0, 0, []), (209, .bastore, 0, 0, 0, []), (210, .iinc 3 1, 0, 0, 1, []), (213, .goto (-151), 41, 0, 0, []), (216, .return_, 2, 0, 0, [])]
-- 102 WhoIsWhoModel.cut(II)I
def am_c102 : List am_E := [(0, .iload_n 1, 0, 0, 0, []), (1, .iload_n 2, 0, 0, 0, []), (2, .idiv, 0, 0, 0, []), (3, .istore_n 3, 0, 0, 0, []), (4, .iload_n 3, 0, 0, 0, []), (5, .iload_n 2, 0, 0, 0, []), (6, .imul, 0, 0, 0, []), (7, .iload_n 1, 0, 0, 0, []), (8, .if_icmp .le 9, 13, 0, 0, []), (11, .iload_n 3, 0, 0, 0, []), (12, .iconst 1, 0, 0, 1, []), (13, .isub, 0, 0, 0, []), (14, .goto 4, 14, 0, 0, []), (17, .iload_n 3, 0, 0, 0, []), (18, .ireturn, 0, 0, 0, [])]
-- 103 WhoIsWhoModel.begin(III)V
def am_c103 : List am_E := [(0, .aload_n 0, 0, 0, 0, []), (1, .getfield 81, 10, 23, 0, []), (4, .iload_n 1, 0, 0, 0, []), (5, .aload_n 0, 0, 0, 0, []), (6, .iload_n 2, 0, 0, 0, []), (7, .iload_n 3, 0, 0, 0, []), (8, .invokevirtual 142, 94, 2, 0, []), (11, .iastore, 0, 0, 0, []), (12, .aload_n 0, 0, 0, 0, []), (13, .getfield 84, 10, 24, 0, []), (16, .iload_n 1, 0, 0, 0, []), (17, .aload_n 0, 0, 0, 0, []), (18, .iload_n 2, 0, 0, 0, []), (19, .iload_n 3, 0, 0, 0, []), (20, .invokevirtual 150, 95, 2, 0, []), (23, .iastore, 0, 0, 0, []), (24, .aload_n 0, 0, 0, 0, []), (25, .getfield 87, 10, 25, 0, []), (28, .iload_n 1, 0, 0, 0, []), (29, .iconst 0, 0, 0, 0, []), (30, .iastore, 0, 0, 0, []), (31, .aload_n 0, 0, 0, 0, []), (32, .getfield 90, 10, 26, 0, []), (35, .iload_n 1, 0, 0, 0, []), (36, .iconst 0, 0, 0, 0, []), (37, .iastore, 0, 0, 0, []), (38, .aload_n 0, 0, 0, 0, []), (39, .getfield 93, 10, 27, 0, []), (42, .iload_n 1, 0, 0, 0, []), (43, .aload_n 0, 0, 0, 0, []), (44, .getfield 29, 10, 6, 0, []), (47, .iload_n 2, 0, 0, 0, []), (48, .iaload, 0, 0, 0, []), (49, .iastore, 0, 0, 0, []), (50, .aload_n 0, 0, 0, 0, []), (51, .getfield 96, 10, 28, 0, []), (54, .iload_n 1, 0, 0, 0, []), (55, .iconst 1, 0, 0, 1, []), (56, .iastore, 0, 0, 0, []), (57, .aload_n 0, 0, 0, 0, []), (58, .getfield 99, 10, 29, 0, []), (61, .iload_n 1, 0, 0, 0, []), (62, .iconst 0, 0, 0, 0, []), (63, .iastore, 0, 0, 0, []), (64, .aload_n 0, 0, 0, 0, []), (65, .getfield 102, 10, 30, 0, []), (68, .iload_n 1, 0, 0, 0, []), (69, .aload_n 0, 0, 0, 0, []), (70, .getfield 41, 10, 10, 0, []), (73, .iconst 4, 0, 0, 4, []), (74, .iload_n 2, 0, 0, 0, []), (75, .imul, 0, 0, 0, []), (76, .iload_n 3, 0, 0, 0, []), (77, .iadd, 0, 0, 0, []), (78, .iaload, 0, 0, 0, []), (79, .iastore, 0, 0, 0, []), (80, .aload_n 0, 0, 0, 0, []), (81, .getfield 105, 10, 31, 0, []), (84, .iload_n 1, 0, 0, 0, []), (85, .iconst 0, 0, 0, 0, []), (86, .bastore, 0, 0, 0, []), (87, .return_, 2, 0, 0, [])]
-- 104 WhoIsWhoModel.goOn(III)V
def am_c104 : List am_E := [(0, .aload_n 0, 0, 0, 0, []), (1, .getfield 29, 10, 6, 0, []), (4, .iload_n 2, 0, 0, 0, []), (5, .iaload, 0, 0, 0, []), (6, .aload_n 0, 0, 0, 0, []), (7, .getfield 93, 10, 27, 0, []), (10, .iload_n 1, 0, 0, 0, []), (11, .iaload, 0, 0, 0, []), (12, .isub, 0, 0, 0, []), (13, .istore 4, 0, 0, 0, []), (15, .iload 4, 0, 0, 0, []), (17, .ifCond .le 53, 44, 0, 0, []), (20, .aload_n 0, 0, 0, 0, []), (21, .getfield 87, 10, 25, 0, []), (24, .iload_n 1, 0, 0, 0, []), (25, .aload_n 0, 0, 0, 0, []), (26, .aload_n 0, 0, 0, 0, []), (27, .iload_n 2, 0, 0, 0, []), (28, .iload_n 3, 0, 0, 0, []), (29, .invokevirtual 142, 94, 2, 0, []), (32, .aload_n 0, 0, 0, 0, []), (33, .getfield 81, 10, 23, 0, []), (36, .iload_n 1, 0, 0, 0, []), (37, .iaload, 0, 0, 0, []), (38, .isub, 0, 0, 0, []), (39, .iload 4, 0, 0, 0, []), (41, .invokevirtual 157, 102, 2, 0, []), (44, .iastore, 0, 0, 0, []), (45, .aload_n 0, 0, 0, 0, []), (46, .getfield 90, 10, 26, 0, []), (49, .iload_n 1, 0, 0, 0, []), (50, .aload_n 0, 0, 0, 0, []), (51, .aload_n 0, 0, 0, 0, []), (52, .iload_n 2, 0, 0, 0, []), (53, .iload_n 3, 0, 0, 0, []), (54, .invokevirtual 150, 95, 2, 0, []), (57, .aload_n 0, 0, 0, 0, []), (58, .getfield 84, 10, 24, 0, []), (61, .iload_n 1, 0, 0, 0, []), (62, .iaload, 0, 0, 0, []), (63, .isub, 0, 0, 0, []), (64, .iload 4, 0, 0, 0, []), (66, .invokevirtual 157, 102, 2, 0, []), (69, .iastore, 0, 0, 0, []), (70, .aload_n 0, 0, 0, 0, []), (71, .getfield 81, 10, 23, 0, []), (74, .iload_n 1, 0, 0, 0, []), (75, .aload_n 0, 0, 0, 0, []), (76, .iload_n 2, 0, 0, 0, []), (77, .iload_n 3, 0, 0, 0, []), (78, .invokevirtual 142, 94, 2, 0, []), (81, .iastore, 0, 0, 0, []), (82, .aload_n 0, 0, 0, 0, []), (83, .getfield 84, 10, 24, 0, []), (86, .iload_n 1, 0, 0, 0, []), (87, .aload_n 0, 0, 0, 0, []), (88, .iload_n 2, 0, 0, 0, []), (89, .iload_n 3, 0, 0, 0, []), (90, .invokevirtual 150, 95, 2, 0, []), (93, .iastore, 0, 0, 0, []), (94, .aload_n 0, 0, 0, 0, []), (95, .getfield 93, 10, 27, 0, []), (98, .iload_n 1, 0, 0, 0, []), (99, .aload_n 0, 0, 0, 0, []), (100, .getfield 29, 10, 6, 0, []), (103, .iload_n 2, 0, 0, 0, []), (104, .iaload, 0, 0, 0, []), (105, .iastore, 0, 0, 0, []), (106, .aload_n 0, 0, 0, 0, []), (107, .getfield 96, 10, 28, 0, []), (110, .iload_n 1, 0, 0, 0, []), (111, .dup2, 0, 0, 0, []), (112, .iaload, 0, 0, 0, []), (113, .iconst 1, 0, 0, 1, []), (114, .iadd, 0, 0, 0, []), (115, .iastore, 0, 0, 0, []), (116, .aload_n 0, 0, 0, 0, []), (117, .getfield 99, 10, 29, 0, []), (120, .iload_n 1, 0, 0, 0, []), (121, .iconst 0, 0, 0, 0, []), (122, .iastore, 0, 0, 0, []), (123, .aload_n 0, 0, 0, 0, []), (124, .getfield 102, 10, 30, 0, []), (127, .iload_n 1, 0, 0, 0, []), (128, .aload_n 0, 0, 0, 0, []), (129, .getfield 102, 10, 30, 0, []), (132, .iload_n 1, 0, 0, 0, []), (133, .iaload, 0, 0, 0, []), (134, .ifCond .ne 16, 98, 0, 0, []), (137, .aload_n 0, 0, 0, 0, []), (138, .getfield 41, 10, 10, 0, []), (141, .iconst 4, 0, 0, 4, []), (142, .iload_n 2, 0, 0, 0, []), (143, .imul, 0, 0, 0, []), (144, .iload_n 3, 0, 0, 0, []), (145, .iadd, 0, 0, 0, []), (146, .iaload, 0, 0, 0, []), (147, .goto 9, 102, 0, 0, []), (150, .aload_n 0, 0, 0, 0, []), (151, .getfield 102, 10, 30, 0, []), (154, .iload_n 1, 0, 0, 0, []), (155, .iaload, 0, 0, 0, []), (156, .iastore, 0, 0, 0, []), (157, .return_, 2, 0, 0, [])]
-- 105 WhoIsWhoModel.apply(III)V
def am_c105 : List am_E := [(0, .aload_n 0, 0, 0, 0, []), (1, .getfield 32, 10, 7, 0, []), (4, .iload_n 2, 0, 0, 0, []), (5, .iaload, 0, 0, 0, []), (6, .istore 4, 0, 0, 0, []), (8, .aload_n 0, 0, 0, 0, []), (9, .getfield 75, 10, 21, 0, []), (12, .iload_n 1, 0, 0, 0, []), (13, .iaload, 0, 0, 0, []), (14, .istore 5, 0, 0, 0, []), (16, .iconst 0, 0, 0, 0, []), (17, .istore 6, 0, 0, 0, []), (19, .iconst 0, 0, 0, 0, []), (20, .istore 7, 0, 0, 0, []), (22, .iload 7, 0, 0, 0, []), (24, .iload 4, 0, 0, 0, []), (26, .if_icmp .ge 137, 95, 0, 0, []), (29, .aload_n 0, 0, 0, 0, []), (30, .iload_n 3, 0, 0, 0, []), (31, .iload 4, 0, 0, 0, []), (33, .iload 7, 0, 0, 0, []), (35, .invokevirtual 153, 98, 3, 0, []), (38, .istore 8, 0, 0, 0, []), (40, .iload 8, 0, 0, 0, []), (42, .bipush 7, 0, 0, 7, []), (44, .if_icmp .ne 7, 28, 0, 0, []), (47, .iconst (-1), 0, 0, (-1), []), (48, .goto 21, 37, 0, 0, []), (51, .iload 8, 0, 0, 0, []), (53, .bipush 6, 0, 0, 6, []), (55, .if_icmp .ne 12, 36, 0, 0, []), (58, .aload_n 0, 0, 0, 0, []), (59, .getfield 75, 10, 21, 0, []), (62, .iload_n 1, 0, 0, 0, []), (63, .iaload, 0, 0, 0, []), (64, .goto 5, 37, 0, 0, []), (67, .iload 8, 0, 0, 0, []), (69, .istore 9, 0, 0, 0, []), (71, .aload_n 0, 0, 0, 0, []), (72, .getfield 78, 10, 22, 0, []), (75, .bipush 48, 0, 0, 48, []), (77, .iload_n 1, 0, 0, 0, []), (78, .imul, 0, 0, 0, []), (79, .iconst 4, 0, 0, 4, []), (80, .iload_n 2, 0, 0, 0, []), (81, .imul, 0, 0, 0, []), (82, .iadd, 0, 0, 0, []), (83, .iload 7, 0, 0, 0, []), (85, .iadd, 0, 0, 0, []), (86, .iload 9, 0, 0, 0, []), (88, .iastore, 0, 0, 0, []), (89, .iload 8, 0, 0, 0, []), (91, .bipush 6, 0, 0, 6, []), (93, .if_icmp .ne 34, 75, 0, 0, []), (96, .aload_n 0, 0, 0, 0, []), (97, .bipush 6, 0, 0, 6, []), (99, .iload_n 1, 0, 0, 0, []), (100, .imul, 0, 0, 0, []), (101, .aload_n 0, 0, 0, 0, []), (102, .getfield 75, 10, 21, 0, []), (105, .iload_n 1, 0, 0, 0, []), (106, .iaload, 0, 0, 0, []), (107, .iadd, 0, 0, 0, []), (108, .iload_n 2, 0, 0, 0, []), (109, .iload 7, 0, 0, 0, []), (111, .invokevirtual 160, 103, 3, 0, []), (114, .aload_n 0, 0, 0, 0, []), (115, .getfield 75, 10, 21, 0, []), (118, .iload_n 1, 0, 0, 0, []), (119, .dup2, 0, 0, 0, []), (120, .iaload, 0, 0, 0, []), (121, .iconst 1, 0, 0, 1, []), (122, .iadd, 0, 0, 0, []), (123, .iastore, 0, 0, 0, []), (124, .goto 33, 93, 0, 0, []), (127, .iload 8, 0, 0, 0, []), (129, .bipush 6, 0, 0, 6, []), (131, .if_icmp .ge 26, 93, 0, 0, []), (134, .aload_n 0, 0, 0, 0, []), (135, .bipush 6, 0, 0, 6, []), (137, .iload_n 1, 0, 0, 0, []), (138, .imul, 0, 0, 0, []), (139, .iload 8, 0, 0, 0, []), (141, .iadd, 0, 0, 0, []), (142, .iload_n 2, 0, 0, 0, []), (143, .iload 7, 0, 0, 0, []), (145, .invokevirtual 164, 104, 3, 0, []), (148, .iload 6, 0, 0, 0, []), (150, .iconst 1, 0, 0, 1, []), (151, .iload 8, 0, 0, 0, []), (153, .ishl, 0, 0, 0, []), (154, .ior, 0, 0, 0, []), (155, .istore 6, 0, 0, 0, []), (157, .iinc 7 1, 0, 0, 1, []), (160, .goto (-138), 14, 0, 0, []), (163, .iconst 0, 0, 0, 0, []), (164, .istore 7, 0, 0, 0, []), (166, .iload 7, 0, 0, 0, []), (168, .iload 5, 0, 0, 0, []), (170, .if_icmp .ge 81, 145, 0, 0, []), (173, .bipush 6, 0, 0, 6, []), (175, .iload_n 1, 0, 0, 0, []), (176, .imul, 0, 0, 0, []), (177, .iload 7, 0, 0, 0, []), (179, .iadd, 0, 0, 0, []), (180, .istore 8, 0, 0, 0, []), (182, .aload_n 0, 0, 0, 0, []), (183, .getfield 105, 10, 31, 0, []), (186, .iload 8, 0, 0, 0, []), (188, .baload, 0, 0, 0, []), (189, .ifCond .ne 56, 143, 0, 0, []), (192, .iload 6, 0, 0, 0, []), (194, .iload 7, 0, 0, 0, []), (196, .ishr, 0, 0, 0, []), (197, .iconst 1, 0, 0, 1, []), (198, .iand, 0, 0, 0, []), (199, .iconst 1, 0, 0, 1, []), (200, .if_icmp .ne 6, 119, 0, 0, []), (203, .goto 42, 143, 0, 0, []), (206, .aload_n 0, 0, 0, 0, []), (207, .getfield 99, 10, 29, 0, []), (210, .iload 8, 0, 0, 0, []), (212, .dup2, 0, 0, 0, []), (213, .iaload, 0, 0, 0, []), (214, .iconst 1, 0, 0, 1, []), (215, .iadd, 0, 0, 0, []), (216, .iastore, 0, 0, 0, []), (217, .aload_n 0, 0, 0, 0, []), (218, .getfield 105, 10, 31, 0, []), (221, .iload 8, 0, 0, 0, []), (223, .aload_n 0, 0, 0, 0, []), (224, .getfield 99, 10, 29, 0, []), (227, .iload 8, 0, 0, 0, []), (229, .iaload, 0, 0, 0, []), (230, .aload_n 0, 0, 0, 0, []), (231, .getfield 56, 10, 15, 0, []), (234, .iconst 4, 0, 0, 4, []), (235, .iaload, 0, 0, 0, []), (236, .if_icmp .lt 7, 141, 0, 0, []), (239, .iconst 1, 0, 0, 1, []), (240, .goto 4, 142, 0, 0, []), (243, .iconst 0, 0, 0, 0, []), (244, .bastore, 0, 0, 0, []), (245, .iinc 7 1, 0, 0, 1, []), (248, .goto (-82), 97, 0, 0, []), (251, .return_, 2, 0, 0, [])]
-- 106 WhoIsWhoModel.takeScan(I)V
def am_c106 : List am_E := [(0, .aload_n 0, 0, 0, 0, []), (1, .iconst 0, 0, 0, 0, []), (2, .putfield 112, 10, 33, 0, []), (5, .iconst 1, 0, 0, 1, []), (6, .iconst 3, 0, 0, 3, []), (7, .aload_n 0, 0, 0, 0, []), (8, .getfield 32, 10, 7, 0, []), (11, .iload_n 1, 0, 0, 0, []), (12, .iaload, 0, 0, 0, []), (13, .imul, 0, 0, 0, []), (14, .ishl, 0, 0, 0, []), (15, .istore_n 2, 0, 0, 0, []), (16, .iconst 0, 0, 0, 0, []), (17, .istore_n 3, 0, 0, 0, []), (18, .iload_n 3, 0, 0, 0, []), (19, .aload_n 0, 0, 0, 0, []), (20, .getfield 66, 10, 18, 0, []), (23, .if_icmp .ge 73, 54, 0, 0, []), (26, .aload_n 0, 0, 0, 0, []), (27, .getfield 69, 10, 19, 0, []), (30, .iload_n 3, 0, 0, 0, []), (31, .iadd, 0, 0, 0, []), (32, .istore 4, 0, 0, 0, []), (34, .aload_n 0, 0, 0, 0, []), (35, .iload 4, 0, 0, 0, []), (37, .iload_n 1, 0, 0, 0, []), (38, .invokevirtual 167, 97, 2, 0, []), (41, .iconst 0, 0, 0, 0, []), (42, .istore 5, 0, 0, 0, []), (44, .iload 5, 0, 0, 0, []), (46, .iload_n 2, 0, 0, 0, []), (47, .if_icmp .ge 43, 52, 0, 0, []), (50, .aload_n 0, 0, 0, 0, []), (51, .iload 4, 0, 0, 0, []), (53, .iload_n 1, 0, 0, 0, []), (54, .iload 5, 0, 0, 0, []), (56, .invokevirtual 171, 99, 3, 0, []), (59, .istore 6, 0, 0, 0, []), (61, .iload 6, 0, 0, 0, []), (63, .ifCond .lt 21, 50, 0, 0, []), (66, .aload_n 0, 0, 0, 0, []), (67, .aload_n 0, 0, 0, 0, []), (68, .getfield 72, 10, 20, 0, []), (71, .iload 4, 0, 0, 0, []), (73, .iaload, 0, 0, 0, []), (74, .iload 6, 0, 0, 0, []), (76, .iadd, 0, 0, 0, []), (77, .iload 4, 0, 0, 0, []), (79, .iload 5, 0, 0, 0, []), (81, .invokevirtual 174, 100, 3, 0, []), (84, .iinc 5 1, 0, 0, 1, []), (87, .goto (-43), 29, 0, 0, []), (90, .iinc 3 1, 0, 0, 1, []), (93, .goto (-75), 14, 0, 0, []), (96, .iconst 4, 0, 0, 4, []), (97, .aload_n 0, 0, 0, 0, []), (98, .getfield 69, 10, 19, 0, []), (101, .isub, 0, 0, 0, []), (102, .istore_n 3, 0, 0, 0, []), (103, .iconst 0, 0, 0, 0, []), (104, .istore 4, 0, 0, 0, []), (106, .iload 4, 0, 0, 0, []), (108, .aload_n 0, 0, 0, 0, []), (109, .getfield 112, 10, 33, 0, []), (112, .if_icmp .ge 56, 96, 0, 0, []), (115, .aload_n 0, 0, 0, 0, []), (116, .aload_n 0, 0, 0, 0, []), (117, .getfield 118, 10, 35, 0, []), (120, .iload 4, 0, 0, 0, []), (122, .iaload, 0, 0, 0, []), (123, .iload_n 3, 0, 0, 0, []), (124, .iload 4, 0, 0, 0, []), (126, .iadd, 0, 0, 0, []), (127, .invokevirtual 177, 101, 2, 0, []), (130, .aload_n 0, 0, 0, 0, []), (131, .getfield 72, 10, 20, 0, []), (134, .iload_n 3, 0, 0, 0, []), (135, .iload 4, 0, 0, 0, []), (137, .iadd, 0, 0, 0, []), (138, .aload_n 0, 0, 0, 0, []), (139, .getfield 115, 10, 34, 0, []), (142, .iload 4, 0, 0, 0, []), (144, .iaload, 0, 0, 0, []), (145, .iastore, 0, 0, 0, []), (146, .aload_n 0, 0, 0, 0, []), (147, .iload_n 3, 0, 0, 0, []), (148, .iload 4, 0, 0, 0, []), (150, .iadd, 0, 0, 0, []), (151, .iload_n 1, 0, 0, 0, []), (152, .aload_n 0, 0, 0, 0, []), (153, .getfield 121, 10, 36, 0, []), (156, .iload 4, 0, 0, 0, []), (158, .iaload, 0, 0, 0, []), (159, .invokevirtual 180, 105, 3, 0, []), (162, .iinc 4 1, 0, 0, 1, []), (165, .goto (-59), 61, 0, 0, []), (168, .aload_n 0, 0, 0, 0, []), (169, .aload_n 0, 0, 0, 0, []), (170, .getfield 112, 10, 33, 0, []), (173, .putfield 66, 10, 18, 0, []), (176, .aload_n 0, 0, 0, 0, []), (177, .iload_n 3, 0, 0, 0, []), (178, .putfield 69, 10, 19, 0, []), (181, .return_, 2, 0, 0, [])]
-- 107 WhoIsWhoModel.renew()V
def am_c107 : List am_E := [(0, .aload_n 0, 0, 0, 0, []), (1, .getfield 59, 10, 16, 0, []), (4, .ifCond .ne 4, 4, 0, 0, []), (7, .return_, 2, 0, 0, []), (8, .aload_n 0, 0, 0, 0, []), (9, .iconst 0, 0, 0, 0, []), (10, .putfield 59, 10, 16, 0, []), (13, .aload_n 0, 0, 0, 0, []), (14, .invokevirtual 183, 93, 0, 0, []), (17, .aload_n 0, 0, 0, 0, []), (18, .iconst 1, 0, 0, 1, []), (19, .putfield 66, 10, 18, 0, []), (22, .aload_n 0, 0, 0, 0, []), (23, .iconst 0, 0, 0, 0, []), (24, .putfield 69, 10, 19, 0, []), (27, .aload_n 0, 0, 0, 0, []), (28, .getfield 72, 10, 20, 0, []), (31, .iconst 0, 0, 0, 0, []), (32, .iconst 0, 0, 0, 0, []), (33, .iastore, 0, 0, 0, []), (34, .aload_n 0, 0, 0, 0, []), (35, .getfield 75, 10, 21, 0, []), (38, .iconst 0, 0, 0, 0, []), (39, .iconst 0, 0, 0, 0, []), (40, .iastore, 0, 0, 0, []), (41, .iconst 0, 0, 0, 0, []), (42, .istore_n 1, 0, 0, 0, []), (43, .iload_n 1, 0, 0, 0, []), (44, .aload_n 0, 0, 0, 0, []), (45, .getfield 13, 10, 1, 0, []), (48, .if_icmp .ge 19, 39, 0, 0, []), (51, .aload_n 0, 0, 0, 0, []), (52, .aload_n 0, 0, 0, 0, []), (53, .getfield 63, 10, 17, 0, []), (56, .iload_n 1, 0, 0, 0, []), (57, .iaload, 0, 0, 0, []), (58, .invokevirtual 186, 106, 1, 0, []), (61, .iinc 1 1, 0, 0, 1, []), (64, .goto (-21), 27, 0, 0, []), (67, .return_, 2, 0, 0, [])]
-- 108 WhoIsWhoModel.isWorld(I)Z
def am_c108 : List am_E := [(0, .aload_n 0, 0, 0, 0, []), (1, .invokevirtual 190, 107, 0, 0, []), (4, .aload_n 0, 0, 0, 0, []), (5, .iload_n 1, 0, 0, 0, []), (6, .iconst 0, 0, 0, 0, []), (7, .aload_n 0, 0, 0, 0, []), (8, .getfield 66, 10, 18, 0, []), (11, .iconst 1, 0, 0, 1, []), (12, .isub, 0, 0, 0, []), (13, .invokevirtual 130, 82, 3, 0, []), (16, .ireturn, 1, 0, 0, [])]
-- 109 WhoIsWhoModel.isTrack(II)Z
def am_c109 : List am_E := [(0, .aload_n 0, 0, 0, 0, []), (1, .iload_n 1, 0, 0, 0, []), (2, .invokevirtual 193, 108, 1, 0, []), (5, .ifCond .eq 29, 20, 0, 0, []), (8, .aload_n 0, 0, 0, 0, []), (9, .iload_n 2, 0, 0, 0, []), (10, .iconst 0, 0, 0, 0, []), (11, .aload_n 0, 0, 0, 0, []), (12, .getfield 75, 10, 21, 0, []), (15, .aload_n 0, 0, 0, 0, []), (16, .getfield 69, 10, 19, 0, []), (19, .iload_n 1, 0, 0, 0, []), (20, .iadd, 0, 0, 0, []), (21, .iaload, 0, 0, 0, []), (22, .iconst 1, 0, 0, 1, []), (23, .isub, 0, 0, 0, []), (24, .invokevirtual 130, 82, 3, 0, []), (27, .ifCond .eq 7, 20, 0, 0, []), (30, .iconst 1, 0, 0, 1, []), (31, .goto 4, 21, 0, 0, []), (34, .iconst 0, 0, 0, 0, []), (35, .ireturn, 1, 0, 0, [])]
-- 110 WhoIsWhoModel.worlds()I
def am_c110 : List am_E := [(0, .aload_n 0, 0, 0, 0, []), (1, .invokevirtual 190, 107, 0, 0, []), (4, .aload_n 0, 0, 0, 0, []), (5, .getfield 66, 10, 18, 0, []), (8, .ireturn, 0, 0, 0, [])]
-- 111 WhoIsWhoModel.cost(I)I
def am_c111 : List am_E := [(0, .aload_n 0, 0, 0, 0, []), (1, .iload_n 1, 0, 0, 0, []), (2, .invokevirtual 193, 108, 1, 0, []), (5, .ifCond .eq 17, 12, 0, 0, []), (8, .aload_n 0, 0, 0, 0, []), (9, .getfield 72, 10, 20, 0, []), (12, .aload_n 0, 0, 0, 0, []), (13, .getfield 69, 10, 19, 0, []), (16, .iload_n 1, 0, 0, 0, []), (17, .iadd, 0, 0, 0, []), (18, .iaload, 0, 0, 0, []), (19, .goto 5, 13, 0, 0, []), (22, .ldc 196, 0, 0, (-2147483648), []), (24, .ireturn, 0, 0, 0, [])]
-- 112 WhoIsWhoModel.gap(I)I
def am_c112 : List am_E := [(0, .aload_n 0, 0, 0, 0, []), (1, .iload_n 1, 0, 0, 0, []), (2, .invokevirtual 193, 108, 1, 0, []), (5, .ifCond .eq 27, 18, 0, 0, []), (8, .aload_n 0, 0, 0, 0, []), (9, .getfield 72, 10, 20, 0, []), (12, .aload_n 0, 0, 0, 0, []), (13, .getfield 69, 10, 19, 0, []), (16, .iload_n 1, 0, 0, 0, []), (17, .iadd, 0, 0, 0, []), (18, .iaload, 0, 0, 0, []), (19, .aload_n 0, 0, 0, 0, []), (20, .getfield 72, 10, 20, 0, []), (23, .aload_n 0, 0, 0, 0, []), (24, .getfield 69, 10, 19, 0, []), (27, .iaload, 0, 0, 0, []), (28, .isub, 0, 0, 0, []), (29, .goto 4, 19, 0, 0, []), (32, .iconst (-1), 0, 0, (-1), []), (33, .ireturn, 0, 0, 0, [])]
-- 113 WhoIsWhoModel.tracks(I)I
def am_c113 : List am_E := [(0, .aload_n 0, 0, 0, 0, []), (1, .iload_n 1, 0, 0, 0, []), (2, .invokevirtual 193, 108, 1, 0, []), (5, .ifCond .eq 17, 12, 0, 0, []), (8, .aload_n 0, 0, 0, 0, []), (9, .getfield 75, 10, 21, 0, []), (12, .aload_n 0, 0, 0, 0, []), (13, .getfield 69, 10, 19, 0, []), (16, .iload_n 1, 0, 0, 0, []), (17, .iadd, 0, 0, 0, []), (18, .iaload, 0, 0, 0, []), (19, .goto 4, 13, 0, 0, []), (22, .iconst (-1), 0, 0, (-1), []), (23, .ireturn, 0, 0, 0, [])]
-- 114 WhoIsWhoModel.track(III)I
def am_c114 : List am_E := [(0, .aload_n 0, 0, 0, 0, []), (1, .iload_n 1, 0, 0, 0, []), (2, .iload_n 2, 0, 0, 0, []), (3, .invokevirtual 197, 109, 2, 0, []), (6, .ifCond .ne 6, 7, 0, 0, []), (9, .ldc 196, 0, 0, (-2147483648), []), (11, .ireturn, 0, 0, 0, []), (12, .bipush 6, 0, 0, 6, []), (14, .aload_n 0, 0, 0, 0, []), (15, .getfield 69, 10, 19, 0, []), (18, .iload_n 1, 0, 0, 0, []), (19, .iadd, 0, 0, 0, []), (20, .imul, 0, 0, 0, []), (21, .iload_n 2, 0, 0, 0, []), (22, .iadd, 0, 0, 0, []), (23, .istore 4, 0, 0, 0, []), (25, .iload_n 3, 0, 0, 0, []), (26, .tableswitch 151 0 9 #[54, 62, 70, 78, 86, 94, 102, 110, 118, 134], 77, 0, 0, [18, 23, 28, 33, 38, 43, 48, 53, 58, 67]), (80, .aload_n 0, 0, 0, 0, []), (81, .getfield 81, 10, 23, 0, []), (84, .iload 4, 0, 0, 0, []), (86, .iaload, 0, 0, 0, []), (87, .ireturn, 0, 0, 0, []), (88, .aload_n 0, 0, 0, 0, []), (89, .getfield 84, 10, 24, 0, []), (92, .iload 4, 0, 0, 0, []), (94, .iaload, 0, 0, 0, []), (95, .ireturn, 0, 0, 0, []), (96, .aload_n 0, 0, 0, 0, []), (97, .getfield 87, 10, 25, 0, []), (100, .iload 4, 0, 0, 0, []), (102, .iaload, 0, 0, 0, []), (103, .ireturn, 0, 0, 0, []), (104, .aload_n 0, 0, 0, 0, []), (105, .getfield 90, 10, 26, 0, []), (108, .iload 4, 0, 0, 0, []), (110, .iaload, 0, 0, 0, []), (111, .ireturn, 0, 0, 0, []), (112, .aload_n 0, 0, 0, 0, []), (113, .getfield 93, 10, 27, 0, []), (116, .iload 4, 0, 0, 0, []), (118, .iaload, 0, 0, 0, []), (119, .ireturn, 0, 0, 0, []), (120, .aload_n 0, 0, 0, 0, []), (121, .getfield 96, 10, 28, 0, []), (124, .iload 4, 0, 0, 0, []), (126, .iaload, 0, 0, 0, []), (127, .ireturn, 0, 0, 0, []), (128, .aload_n 0, 0, 0, 0, []), (129, .getfield 99, 10, 29, 0, []), (132, .iload 4, 0, 0, 0, []), (134, .iaload, 0, 0, 0, []), (135, .ireturn, 0, 0, 0, []), (136, .aload_n 0, 0, 0, 0, []), (137, .getfield 102, 10, 30, 0, []), (140, .iload 4, 0, 0, 0, []), (142, .iaload, 0, 0, 0, []), (143, .ireturn, 0, 0, 0, []), (144, .aload_n 0, 0, 0, 0, []), (145, .getfield 105, 10, 31, 0, []), (148, .iload 4, 0, 0, 0, []), (150, .baload, 0, 0, 0, []), (151, .ifCond .eq 7, 65, 0, 0, []), (154, .iconst 1, 0, 0, 1, []), (155, .goto 4, 66, 0, 0, []), (158, .iconst 0, 0, 0, 0, []), (159, .ireturn, 0, 0, 0, []), (160, .aload_n 0, 0, 0, 0, []), (161, .getfield 96, 10, 28, 0, []), (164, .iload 4, 0, 0, 0, []), (166, .iaload, 0, 0, 0, []), (167, .iconst 1, 0, 0, 1, []), (168, .if_icmp .le 7, 75, 0, 0, []), (171, .iconst 1, 0, 0, 1, []), (172, .goto 4, 76, 0, 0, []), (175, .iconst 0, 0, 0, 0, []), (176, .ireturn, 0, 0, 0, []), (177, .ldc 196, 0, 0, (-2147483648), []), (179, .ireturn, 0, 0, 0, [])]
-- 115 WhoIsWhoModel.accountOf(III)I
def am_c115 : List am_E := [(0, .aload_n 0, 0, 0, 0, []), (1, .getfield 78, 10, 22, 0, []), (4, .bipush 48, 0, 0, 48, []), (6, .aload_n 0, 0, 0, 0, []), (7, .getfield 69, 10, 19, 0, []), (10, .iload_n 1, 0, 0, 0, []), (11, .iadd, 0, 0, 0, []), (12, .imul, 0, 0, 0, []), (13, .iconst 4, 0, 0, 4, []), (14, .iload_n 2, 0, 0, 0, []), (15, .imul, 0, 0, 0, []), (16, .iadd, 0, 0, 0, []), (17, .iload_n 3, 0, 0, 0, []), (18, .iadd, 0, 0, 0, []), (19, .iaload, 0, 0, 0, []), (20, .ireturn, 0, 0, 0, [])]
-- 116 WhoIsWhoModel.account(III)I
def am_c116 : List am_E := [(0, .aload_n 0, 0, 0, 0, []), (1, .iload_n 1, 0, 0, 0, []), (2, .invokevirtual 193, 108, 1, 0, []), (5, .ifCond .eq 22, 15, 0, 0, []), (8, .aload_n 0, 0, 0, 0, []), (9, .iload_n 2, 0, 0, 0, []), (10, .iload_n 3, 0, 0, 0, []), (11, .invokevirtual 201, 85, 2, 0, []), (14, .ifCond .eq 13, 15, 0, 0, []), (17, .aload_n 0, 0, 0, 0, []), (18, .iload_n 1, 0, 0, 0, []), (19, .iload_n 2, 0, 0, 0, []), (20, .iload_n 3, 0, 0, 0, []), (21, .invokevirtual 204, 115, 3, 0, []), (24, .goto 5, 16, 0, 0, []), (27, .bipush (-2), 0, 0, (-2), []), (29, .ireturn, 0, 0, 0, [])]
-- 117 WhoIsWhoModel.foretell(IIII)I
def am_c117 : List am_E := [(0, .aload_n 0, 0, 0, 0, []), (1, .iload_n 1, 0, 0, 0, []), (2, .iload_n 2, 0, 0, 0, []), (3, .invokevirtual 197, 109, 2, 0, []), (6, .ifCond .eq 41, 27, 0, 0, []), (9, .aload_n 0, 0, 0, 0, []), (10, .iload 4, 0, 0, 0, []), (12, .iconst 0, 0, 0, 0, []), (13, .iconst 1, 0, 0, 1, []), (14, .invokevirtual 130, 82, 3, 0, []), (17, .ifCond .eq 30, 27, 0, 0, []), (20, .aload_n 0, 0, 0, 0, []), (21, .iload_n 3, 0, 0, 0, []), (22, .aload_n 0, 0, 0, 0, []), (23, .getfield 93, 10, 27, 0, []), (26, .bipush 6, 0, 0, 6, []), (28, .aload_n 0, 0, 0, 0, []), (29, .getfield 69, 10, 19, 0, []), (32, .iload_n 1, 0, 0, 0, []), (33, .iadd, 0, 0, 0, []), (34, .imul, 0, 0, 0, []), (35, .iload_n 2, 0, 0, 0, []), (36, .iadd, 0, 0, 0, []), (37, .iaload, 0, 0, 0, []), (38, .sipush 999, 0, 0, 999, []), (41, .invokevirtual 130, 82, 3, 0, []), (44, .ifCond .ne 6, 29, 0, 0, []), (47, .ldc 196, 0, 0, (-2147483648), []), (49, .ireturn, 0, 0, 0, []), (50, .aload_n 0, 0, 0, 0, []), (51, .bipush 6, 0, 0, 6, []), (53, .aload_n 0, 0, 0, 0, []), (54, .getfield 69, 10, 19, 0, []), (57, .iload_n 1, 0, 0, 0, []), (58, .iadd, 0, 0, 0, []), (59, .imul, 0, 0, 0, []), (60, .iload_n 2, 0, 0, 0, []), (61, .iadd, 0, 0, 0, []), (62, .iload_n 3, 0, 0, 0, []), (63, .iload 4, 0, 0, 0, []), (65, .iconst 1, 0, 0, 1, []), (66, .if_icmp .ne 7, 44, 0, 0, []), (69, .iconst 1, 0, 0, 1, []), (70, .goto 4, 45, 0, 0, []), (73, .iconst 0, 0, 0, 0, []), (74, .invokevirtual 146, 96, 3, 0, []), (77, .l2i, 0, 0, 0, []), (78, .ireturn, 0, 0, 0, [])]
-- 118 WhoIsWhoModel.ordered(I)I
def am_c118 : List am_E := [(0, .aload_n 0, 0, 0, 0, []), (1, .invokevirtual 190, 107, 0, 0, []), (4, .aload_n 0, 0, 0, 0, []), (5, .iload_n 1, 0, 0, 0, []), (6, .iconst 0, 0, 0, 0, []), (7, .aload_n 0, 0, 0, 0, []), (8, .getfield 13, 10, 1, 0, []), (11, .iconst 1, 0, 0, 1, []), (12, .isub, 0, 0, 0, []), (13, .invokevirtual 130, 82, 3, 0, []), (16, .ifCond .eq 12, 16, 0, 0, []), (19, .aload_n 0, 0, 0, 0, []), (20, .getfield 63, 10, 17, 0, []), (23, .iload_n 1, 0, 0, 0, []), (24, .iaload, 0, 0, 0, []), (25, .goto 4, 17, 0, 0, []), (28, .iconst (-1), 0, 0, (-1), []), (29, .ireturn, 0, 0, 0, [])]
-- 119 WhoIsWhoModel.name(I)I
def am_c119 : List am_E := [(0, .aload_n 0, 0, 0, 0, []), (1, .invokevirtual 190, 107, 0, 0, []), (4, .aload_n 0, 0, 0, 0, []), (5, .iload_n 1, 0, 0, 0, []), (6, .iconst 1, 0, 0, 1, []), (7, .bipush 9, 0, 0, 9, []), (9, .invokevirtual 130, 82, 3, 0, []), (12, .ifCond .ne 5, 10, 0, 0, []), (15, .iconst (-1), 0, 0, (-1), []), (16, .ireturn, 0, 0, 0, []), (17, .iconst 0, 0, 0, 0, []), (18, .istore_n 2, 0, 0, 0, []), (19, .iload_n 2, 0, 0, 0, []), (20, .bipush 6, 0, 0, 6, []), (22, .if_icmp .ge 82, 59, 0, 0, []), (25, .iconst 1, 0, 0, 1, []), (26, .istore_n 3, 0, 0, 0, []), (27, .iconst 0, 0, 0, 0, []), (28, .istore 4, 0, 0, 0, []), (30, .iload 4, 0, 0, 0, []), (32, .aload_n 0, 0, 0, 0, []), (33, .getfield 66, 10, 18, 0, []), (36, .if_icmp .ge 56, 53, 0, 0, []), (39, .iload_n 3, 0, 0, 0, []), (40, .ifCond .eq 44, 49, 0, 0, []), (43, .iload_n 2, 0, 0, 0, []), (44, .aload_n 0, 0, 0, 0, []), (45, .getfield 75, 10, 21, 0, []), (48, .aload_n 0, 0, 0, 0, []), (49, .getfield 69, 10, 19, 0, []), (52, .iload 4, 0, 0, 0, []), (54, .iadd, 0, 0, 0, []), (55, .iaload, 0, 0, 0, []), (56, .if_icmp .ge 28, 49, 0, 0, []), (59, .aload_n 0, 0, 0, 0, []), (60, .getfield 102, 10, 30, 0, []), (63, .bipush 6, 0, 0, 6, []), (65, .aload_n 0, 0, 0, 0, []), (66, .getfield 69, 10, 19, 0, []), (69, .iload 4, 0, 0, 0, []), (71, .iadd, 0, 0, 0, []), (72, .imul, 0, 0, 0, []), (73, .iload_n 2, 0, 0, 0, []), (74, .iadd, 0, 0, 0, []), (75, .iaload, 0, 0, 0, []), (76, .iload_n 1, 0, 0, 0, []), (77, .if_icmp .ne 7, 49, 0, 0, []), (80, .iconst 1, 0, 0, 1, []), (81, .goto 4, 50, 0, 0, []), (84, .iconst 0, 0, 0, 0, []), (85, .istore_n 3, 0, 0, 0, []), (86, .iinc 4 1, 0, 0, 1, []), (89, .goto (-59), 19, 0, 0, []), (92, .iload_n 3, 0, 0, 0, []), (93, .ifCond .eq 5, 57, 0, 0, []), (96, .iload_n 2, 0, 0, 0, []), (97, .ireturn, 0, 0, 0, []), (98, .iinc 2 1, 0, 0, 1, []), (101, .goto (-82), 12, 0, 0, []), (104, .iconst (-1), 0, 0, (-1), []), (105, .ireturn, 0, 0, 0, [])]
-- 120 WhoIsWhoModel.isSure(II)Z
def am_c120 : List am_E := [(0, .iconst 1, 0, 0, 1, []), (1, .istore_n 3, 0, 0, 0, []), (2, .iconst 1, 0, 0, 1, []), (3, .istore 4, 0, 0, 0, []), (5, .iload 4, 0, 0, 0, []), (7, .aload_n 0, 0, 0, 0, []), (8, .getfield 66, 10, 18, 0, []), (11, .if_icmp .ge 37, 27, 0, 0, []), (14, .iload_n 3, 0, 0, 0, []), (15, .ifCond .eq 25, 23, 0, 0, []), (18, .aload_n 0, 0, 0, 0, []), (19, .iload 4, 0, 0, 0, []), (21, .iload_n 1, 0, 0, 0, []), (22, .iload_n 2, 0, 0, 0, []), (23, .invokevirtual 204, 115, 3, 0, []), (26, .aload_n 0, 0, 0, 0, []), (27, .iconst 0, 0, 0, 0, []), (28, .iload_n 1, 0, 0, 0, []), (29, .iload_n 2, 0, 0, 0, []), (30, .invokevirtual 204, 115, 3, 0, []), (33, .if_icmp .ne 7, 23, 0, 0, []), (36, .iconst 1, 0, 0, 1, []), (37, .goto 4, 24, 0, 0, []), (40, .iconst 0, 0, 0, 0, []), (41, .istore_n 3, 0, 0, 0, []), (42, .iinc 4 1, 0, 0, 1, []), (45, .goto (-40), 4, 0, 0, []), (48, .iload_n 3, 0, 0, 0, []), (49, .ireturn, 1, 0, 0, [])]
-- 121 WhoIsWhoModel.sure(II)I
def am_c121 : List am_E := [(0, .aload_n 0, 0, 0, 0, []), (1, .invokevirtual 190, 107, 0, 0, []), (4, .aload_n 0, 0, 0, 0, []), (5, .iload_n 1, 0, 0, 0, []), (6, .iload_n 2, 0, 0, 0, []), (7, .invokevirtual 201, 85, 2, 0, []), (10, .ifCond .eq 20, 16, 0, 0, []), (13, .aload_n 0, 0, 0, 0, []), (14, .iload_n 1, 0, 0, 0, []), (15, .iload_n 2, 0, 0, 0, []), (16, .invokevirtual 207, 120, 2, 0, []), (19, .ifCond .eq 7, 14, 0, 0, []), (22, .iconst 1, 0, 0, 1, []), (23, .goto 8, 17, 0, 0, []), (26, .iconst 0, 0, 0, 0, []), (27, .goto 4, 17, 0, 0, []), (30, .iconst (-1), 0, 0, (-1), []), (31, .ireturn, 0, 0, 0, [])]
-- 122 WhoIsWhoModel.alive(I)I
def am_c122 : List am_E := [(0, .aload_n 0, 0, 0, 0, []), (1, .iload_n 1, 0, 0, 0, []), (2, .invokevirtual 193, 108, 1, 0, []), (5, .ifCond .ne 5, 6, 0, 0, []), (8, .iconst (-1), 0, 0, (-1), []), (9, .ireturn, 0, 0, 0, []), (10, .iconst 0, 0, 0, 0, []), (11, .istore_n 2, 0, 0, 0, []), (12, .iconst 0, 0, 0, 0, []), (13, .istore_n 3, 0, 0, 0, []), (14, .iload_n 3, 0, 0, 0, []), (15, .aload_n 0, 0, 0, 0, []), (16, .getfield 75, 10, 21, 0, []), (19, .aload_n 0, 0, 0, 0, []), (20, .getfield 69, 10, 19, 0, []), (23, .iload_n 1, 0, 0, 0, []), (24, .iadd, 0, 0, 0, []), (25, .iaload, 0, 0, 0, []), (26, .if_icmp .ge 56, 52, 0, 0, []), (29, .iload_n 2, 0, 0, 0, []), (30, .aload_n 0, 0, 0, 0, []), (31, .getfield 96, 10, 28, 0, []), (34, .bipush 6, 0, 0, 6, []), (36, .aload_n 0, 0, 0, 0, []), (37, .getfield 69, 10, 19, 0, []), (40, .iload_n 1, 0, 0, 0, []), (41, .iadd, 0, 0, 0, []), (42, .imul, 0, 0, 0, []), (43, .iload_n 3, 0, 0, 0, []), (44, .iadd, 0, 0, 0, []), (45, .iaload, 0, 0, 0, []), (46, .iconst 1, 0, 0, 1, []), (47, .if_icmp .le 26, 47, 0, 0, []), (50, .aload_n 0, 0, 0, 0, []), (51, .getfield 105, 10, 31, 0, []), (54, .bipush 6, 0, 0, 6, []), (56, .aload_n 0, 0, 0, 0, []), (57, .getfield 69, 10, 19, 0, []), (60, .iload_n 1, 0, 0, 0, []), (61, .iadd, 0, 0, 0, []), (62, .imul, 0, 0, 0, []), (63, .iload_n 3, 0, 0, 0, []), (64, .iadd, 0, 0, 0, []), (65, .baload, 0, 0, 0, []), (66, .ifCond .ne 7, 47, 0, 0, []), (69, .iconst 1, 0, 0, 1, []), (70, .goto 4, 48, 0, 0, []), (73, .iconst 0, 0, 0, 0, []), (74, .iadd, 0, 0, 0, []), (75, .istore_n 2, 0, 0, 0, []), (76, .iinc 3 1, 0, 0, 1, []), (79, .goto (-65), 10, 0, 0, []), (82, .iload_n 2, 0, 0, 0, []), (83, .ireturn, 0, 0, 0, [])]
-- 123 WhoIsWhoModel.path(II)I
def am_c123 : List am_E := [(0, .aload_n 0, 0, 0, 0, []), (1, .iconst 0, 0, 0, 0, []), (2, .iload_n 1, 0, 0, 0, []), (3, .invokevirtual 197, 109, 2, 0, []), (6, .ifCond .eq 7, 7, 0, 0, []), (9, .iload_n 2, 0, 0, 0, []), (10, .ifCond .ge 5, 9, 0, 0, []), (13, .iconst (-1), 0, 0, (-1), []), (14, .ireturn, 0, 0, 0, []), (15, .iload_n 2, 0, 0, 0, []), (16, .istore_n 3, 0, 0, 0, []), (17, .iconst 0, 0, 0, 0, []), (18, .istore 4, 0, 0, 0, []), (20, .iload 4, 0, 0, 0, []), (22, .aload_n 0, 0, 0, 0, []), (23, .getfield 13, 10, 1, 0, []), (26, .if_icmp .ge 76, 55, 0, 0, []), (29, .iconst 0, 0, 0, 0, []), (30, .istore 5, 0, 0, 0, []), (32, .iload 5, 0, 0, 0, []), (34, .aload_n 0, 0, 0, 0, []), (35, .getfield 32, 10, 7, 0, []), (38, .aload_n 0, 0, 0, 0, []), (39, .getfield 63, 10, 17, 0, []), (42, .iload 4, 0, 0, 0, []), (44, .iaload, 0, 0, 0, []), (45, .iaload, 0, 0, 0, []), (46, .if_icmp .ge 50, 53, 0, 0, []), (49, .aload_n 0, 0, 0, 0, []), (50, .iconst 0, 0, 0, 0, []), (51, .aload_n 0, 0, 0, 0, []), (52, .getfield 63, 10, 17, 0, []), (55, .iload 4, 0, 0, 0, []), (57, .iaload, 0, 0, 0, []), (58, .iload 5, 0, 0, 0, []), (60, .invokevirtual 204, 115, 3, 0, []), (63, .iload_n 1, 0, 0, 0, []), (64, .if_icmp .eq 6, 39, 0, 0, []), (67, .goto 23, 51, 0, 0, []), (70, .iload_n 3, 0, 0, 0, []), (71, .ifCond .ne 16, 50, 0, 0, []), (74, .iconst 4, 0, 0, 4, []), (75, .aload_n 0, 0, 0, 0, []), (76, .getfield 63, 10, 17, 0, []), (79, .iload 4, 0, 0, 0, []), (81, .iaload, 0, 0, 0, []), (82, .imul, 0, 0, 0, []), (83, .iload 5, 0, 0, 0, []), (85, .iadd, 0, 0, 0, []), (86, .ireturn, 0, 0, 0, []), (87, .iinc 3 (-1), 0, 0, (-1), []), (90, .iinc 5 1, 0, 0, 1, []), (93, .goto (-61), 19, 0, 0, []), (96, .iinc 4 1, 0, 0, 1, []), (99, .goto (-79), 13, 0, 0, []), (102, .iconst (-1), 0, 0, (-1), []), (103, .ireturn, 0, 0, 0, [])]
-- 124 WhoIsWhoModel.latest(II)I
def am_c124 : List am_E := [(0, .iconst (-1), 0, 0, (-1), []), (1, .istore_n 3, 0, 0, 0, []), (2, .iconst 0, 0, 0, 0, []), (3, .istore 4, 0, 0, 0, []), (5, .iload 4, 0, 0, 0, []), (7, .aload_n 0, 0, 0, 0, []), (8, .getfield 13, 10, 1, 0, []), (11, .if_icmp .ge 82, 51, 0, 0, []), (14, .iconst 0, 0, 0, 0, []), (15, .istore 5, 0, 0, 0, []), (17, .iload 5, 0, 0, 0, []), (19, .aload_n 0, 0, 0, 0, []), (20, .getfield 32, 10, 7, 0, []), (23, .aload_n 0, 0, 0, 0, []), (24, .getfield 63, 10, 17, 0, []), (27, .iload 4, 0, 0, 0, []), (29, .iaload, 0, 0, 0, []), (30, .iaload, 0, 0, 0, []), (31, .if_icmp .ge 56, 49, 0, 0, []), (34, .aload_n 0, 0, 0, 0, []), (35, .getfield 29, 10, 6, 0, []), (38, .aload_n 0, 0, 0, 0, []), (39, .getfield 63, 10, 17, 0, []), (42, .iload 4, 0, 0, 0, []), (44, .iaload, 0, 0, 0, []), (45, .iaload, 0, 0, 0, []), (46, .iload_n 2, 0, 0, 0, []), (47, .if_icmp .gt 34, 47, 0, 0, []), (50, .aload_n 0, 0, 0, 0, []), (51, .iconst 0, 0, 0, 0, []), (52, .aload_n 0, 0, 0, 0, []), (53, .getfield 63, 10, 17, 0, []), (56, .iload 4, 0, 0, 0, []), (58, .iaload, 0, 0, 0, []), (59, .iload 5, 0, 0, 0, []), (61, .invokevirtual 204, 115, 3, 0, []), (64, .iload_n 1, 0, 0, 0, []), (65, .if_icmp .ne 16, 47, 0, 0, []), (68, .iconst 4, 0, 0, 4, []), (69, .aload_n 0, 0, 0, 0, []), (70, .getfield 63, 10, 17, 0, []), (73, .iload 4, 0, 0, 0, []), (75, .iaload, 0, 0, 0, []), (76, .imul, 0, 0, 0, []), (77, .iload 5, 0, 0, 0, []), (79, .iadd, 0, 0, 0, []), (80, .istore_n 3, 0, 0, 0, []), (81, .iinc 5 1, 0, 0, 1, []), (84, .goto (-67), 10, 0, 0, []), (87, .iinc 4 1, 0, 0, 1, []), (90, .goto (-85), 4, 0, 0, []), (93, .iload_n 3, 0, 0, 0, []), (94, .ireturn, 0, 0, 0, [])]
-- 125 WhoIsWhoModel.apartAt(III)I
def am_c125 : List am_E := [(0, .aload_n 0, 0, 0, 0, []), (1, .iload_n 1, 0, 0, 0, []), (2, .iload_n 3, 0, 0, 0, []), (3, .invokevirtual 210, 124, 2, 0, []), (6, .istore 4, 0, 0, 0, []), (8, .aload_n 0, 0, 0, 0, []), (9, .iload_n 2, 0, 0, 0, []), (10, .iload_n 3, 0, 0, 0, []), (11, .invokevirtual 210, 124, 2, 0, []), (14, .istore 5, 0, 0, 0, []), (16, .iload 4, 0, 0, 0, []), (18, .ifCond .lt 8, 14, 0, 0, []), (21, .iload 5, 0, 0, 0, []), (23, .ifCond .ge 5, 16, 0, 0, []), (26, .iconst (-1), 0, 0, (-1), []), (27, .ireturn, 0, 0, 0, []), (28, .aload_n 0, 0, 0, 0, []), (29, .iload 4, 0, 0, 0, []), (31, .iconst 4, 0, 0, 4, []), (32, .idiv, 0, 0, 0, []), (33, .iload 4, 0, 0, 0, []), (35, .iconst 4, 0, 0, 4, []), (36, .irem, 0, 0, 0, []), (37, .invokevirtual 142, 94, 2, 0, []), (40, .aload_n 0, 0, 0, 0, []), (41, .iload 5, 0, 0, 0, []), (43, .iconst 4, 0, 0, 4, []), (44, .idiv, 0, 0, 0, []), (45, .iload 5, 0, 0, 0, []), (47, .iconst 4, 0, 0, 4, []), (48, .irem, 0, 0, 0, []), (49, .invokevirtual 142, 94, 2, 0, []), (52, .isub, 0, 0, 0, []), (53, .istore 6, 0, 0, 0, []), (55, .aload_n 0, 0, 0, 0, []), (56, .iload 4, 0, 0, 0, []), (58, .iconst 4, 0, 0, 4, []), (59, .idiv, 0, 0, 0, []), (60, .iload 4, 0, 0, 0, []), (62, .iconst 4, 0, 0, 4, []), (63, .irem, 0, 0, 0, []), (64, .invokevirtual 150, 95, 2, 0, []), (67, .aload_n 0, 0, 0, 0, []), (68, .iload 5, 0, 0, 0, []), (70, .iconst 4, 0, 0, 4, []), (71, .idiv, 0, 0, 0, []), (72, .iload 5, 0, 0, 0, []), (74, .iconst 4, 0, 0, 4, []), (75, .irem, 0, 0, 0, []), (76, .invokevirtual 150, 95, 2, 0, []), (79, .isub, 0, 0, 0, []), (80, .istore 7, 0, 0, 0, []), (82, .iload 6, 0, 0, 0, []), (84, .iload 6, 0, 0, 0, []), (86, .imul, 0, 0, 0, []), (87, .iload 7, 0, 0, 0, []), (89, .iload 7, 0, 0, 0, []), (91, .imul, 0, 0, 0, []), (92, .iadd, 0, 0, 0, []), (93, .ireturn, 0, 0, 0, [])]
-- 126 WhoIsWhoModel.apart(III)I
def am_c126 : List am_E := [(0, .aload_n 0, 0, 0, 0, []), (1, .iconst 0, 0, 0, 0, []), (2, .iload_n 1, 0, 0, 0, []), (3, .invokevirtual 197, 109, 2, 0, []), (6, .ifCond .eq 22, 16, 0, 0, []), (9, .aload_n 0, 0, 0, 0, []), (10, .iconst 0, 0, 0, 0, []), (11, .iload_n 2, 0, 0, 0, []), (12, .invokevirtual 197, 109, 2, 0, []), (15, .ifCond .eq 13, 16, 0, 0, []), (18, .aload_n 0, 0, 0, 0, []), (19, .iload_n 1, 0, 0, 0, []), (20, .iload_n 2, 0, 0, 0, []), (21, .iload_n 3, 0, 0, 0, []), (22, .invokevirtual 213, 125, 3, 0, []), (25, .goto 4, 17, 0, 0, []), (28, .iconst (-1), 0, 0, (-1), []), (29, .ireturn, 0, 0, 0, [])]
-- 127 WhoIsWhoModel.near(III)I
def am_c127 : List am_E := [(0, .aload_n 0, 0, 0, 0, []), (1, .iconst 0, 0, 0, 0, []), (2, .iload_n 1, 0, 0, 0, []), (3, .invokevirtual 197, 109, 2, 0, []), (6, .ifCond .eq 12, 10, 0, 0, []), (9, .aload_n 0, 0, 0, 0, []), (10, .iconst 0, 0, 0, 0, []), (11, .iload_n 2, 0, 0, 0, []), (12, .invokevirtual 197, 109, 2, 0, []), (15, .ifCond .ne 5, 12, 0, 0, []), (18, .iconst (-1), 0, 0, (-1), []), (19, .ireturn, 0, 0, 0, []), (20, .aload_n 0, 0, 0, 0, []), (21, .iload_n 3, 0, 0, 0, []), (22, .iconst 0, 0, 0, 0, []), (23, .sipush 1000, 0, 0, 1000, []), (26, .invokevirtual 130, 82, 3, 0, []), (29, .ifCond .eq 8, 21, 0, 0, []), (32, .iload_n 1, 0, 0, 0, []), (33, .iload_n 2, 0, 0, 0, []), (34, .if_icmp .ne 6, 23, 0, 0, []), (37, .bipush (-2), 0, 0, (-2), []), (39, .ireturn, 0, 0, 0, []), (40, .iconst 0, 0, 0, 0, []), (41, .istore 4, 0, 0, 0, []), (43, .iload 4, 0, 0, 0, []), (45, .aload_n 0, 0, 0, 0, []), (46, .getfield 13, 10, 1, 0, []), (49, .if_icmp .ge 55, 58, 0, 0, []), (52, .aload_n 0, 0, 0, 0, []), (53, .iload_n 1, 0, 0, 0, []), (54, .iload_n 2, 0, 0, 0, []), (55, .aload_n 0, 0, 0, 0, []), (56, .getfield 29, 10, 6, 0, []), (59, .aload_n 0, 0, 0, 0, []), (60, .getfield 63, 10, 17, 0, []), (63, .iload 4, 0, 0, 0, []), (65, .iaload, 0, 0, 0, []), (66, .iaload, 0, 0, 0, []), (67, .invokevirtual 213, 125, 3, 0, []), (70, .istore 5, 0, 0, 0, []), (72, .iload 5, 0, 0, 0, []), (74, .ifCond .lt 24, 56, 0, 0, []), (77, .iload 5, 0, 0, 0, []), (79, .iload_n 3, 0, 0, 0, []), (80, .iload_n 3, 0, 0, 0, []), (81, .imul, 0, 0, 0, []), (82, .if_icmp .gt 16, 56, 0, 0, []), (85, .aload_n 0, 0, 0, 0, []), (86, .getfield 29, 10, 6, 0, []), (89, .aload_n 0, 0, 0, 0, []), (90, .getfield 63, 10, 17, 0, []), (93, .iload 4, 0, 0, 0, []), (95, .iaload, 0, 0, 0, []), (96, .iaload, 0, 0, 0, []), (97, .ireturn, 0, 0, 0, []), (98, .iinc 4 1, 0, 0, 1, []), (101, .goto (-58), 25, 0, 0, []), (104, .iconst (-1), 0, 0, (-1), []), (105, .ireturn, 0, 0, 0, [])]
-- 128 WhoIsWhoModel.pairsOf(II)I
def am_c128 : List am_E := [(0, .iconst 0, 0, 0, 0, []), (1, .istore_n 3, 0, 0, 0, []), (2, .aload_n 0, 0, 0, 0, []), (3, .iconst 0, 0, 0, 0, []), (4, .putfield 124, 10, 37, 0, []), (7, .aload_n 0, 0, 0, 0, []), (8, .iconst 0, 0, 0, 0, []), (9, .putfield 127, 10, 38, 0, []), (12, .iconst 0, 0, 0, 0, []), (13, .istore 4, 0, 0, 0, []), (15, .iload 4, 0, 0, 0, []), (17, .aload_n 0, 0, 0, 0, []), (18, .getfield 13, 10, 1, 0, []), (21, .if_icmp .ge 208, 122, 0, 0, []), (24, .iconst 0, 0, 0, 0, []), (25, .istore 5, 0, 0, 0, []), (27, .iload 5, 0, 0, 0, []), (29, .aload_n 0, 0, 0, 0, []), (30, .getfield 13, 10, 1, 0, []), (33, .if_icmp .ge 190, 120, 0, 0, []), (36, .aload_n 0, 0, 0, 0, []), (37, .getfield 26, 10, 5, 0, []), (40, .iload 4, 0, 0, 0, []), (42, .iaload, 0, 0, 0, []), (43, .iload_n 1, 0, 0, 0, []), (44, .if_icmp .ne 173, 118, 0, 0, []), (47, .aload_n 0, 0, 0, 0, []), (48, .getfield 26, 10, 5, 0, []), (51, .iload 5, 0, 0, 0, []), (53, .iaload, 0, 0, 0, []), (54, .iload_n 2, 0, 0, 0, []), (55, .if_icmp .ne 162, 118, 0, 0, []), (58, .aload_n 0, 0, 0, 0, []), (59, .getfield 29, 10, 6, 0, []), (62, .iload 4, 0, 0, 0, []), (64, .iaload, 0, 0, 0, []), (65, .aload_n 0, 0, 0, 0, []), (66, .getfield 29, 10, 6, 0, []), (69, .iload 5, 0, 0, 0, []), (71, .iaload, 0, 0, 0, []), (72, .if_icmp .eq 6, 42, 0, 0, []), (75, .goto 142, 118, 0, 0, []), (78, .iconst 4, 0, 0, 4, []), (79, .iload 4, 0, 0, 0, []), (81, .imul, 0, 0, 0, []), (82, .istore 6, 0, 0, 0, []), (84, .iload 6, 0, 0, 0, []), (86, .iconst 4, 0, 0, 4, []), (87, .iload 4, 0, 0, 0, []), (89, .imul, 0, 0, 0, []), (90, .aload_n 0, 0, 0, 0, []), (91, .getfield 32, 10, 7, 0, []), (94, .iload 4, 0, 0, 0, []), (96, .iaload, 0, 0, 0, []), (97, .iadd, 0, 0, 0, []), (98, .if_icmp .ge 119, 118, 0, 0, []), (101, .iconst 4, 0, 0, 4, []), (102, .iload 5, 0, 0, 0, []), (104, .imul, 0, 0, 0, []), (105, .istore 7, 0, 0, 0, []), (107, .iload 7, 0, 0, 0, []), (109, .iconst 4, 0, 0, 4, []), (110, .iload 5, 0, 0, 0, []), (112, .imul, 0, 0, 0, []), (113, .aload_n 0, 0, 0, 0, []), (114, .getfield 32, 10, 7, 0, []), (117, .iload 5, 0, 0, 0, []), (119, .iaload, 0, 0, 0, []), (120, .iadd, 0, 0, 0, []), (121, .if_icmp .ge 90, 116, 0, 0, []), (124, .aload_n 0, 0, 0, 0, []), (125, .getfield 41, 10, 10, 0, []), (128, .iload 6, 0, 0, 0, []), (130, .iaload, 0, 0, 0, []), (131, .ifCond .eq 74, 114, 0, 0, []), (134, .aload_n 0, 0, 0, 0, []), (135, .getfield 41, 10, 10, 0, []), (138, .iload 6, 0, 0, 0, []), (140, .iaload, 0, 0, 0, []), (141, .aload_n 0, 0, 0, 0, []), (142, .getfield 41, 10, 10, 0, []), (145, .iload 7, 0, 0, 0, []), (147, .iaload, 0, 0, 0, []), (148, .if_icmp .eq 6, 85, 0, 0, []), (151, .goto 54, 114, 0, 0, []), (154, .iinc 3 1, 0, 0, 1, []), (157, .aload_n 0, 0, 0, 0, []), (158, .dup, 0, 0, 0, []), (159, .getfield 124, 10, 37, 0, []), (162, .aload_n 0, 0, 0, 0, []), (163, .getfield 35, 10, 8, 0, []), (166, .iload 7, 0, 0, 0, []), (168, .iaload, 0, 0, 0, []), (169, .aload_n 0, 0, 0, 0, []), (170, .getfield 35, 10, 8, 0, []), (173, .iload 6, 0, 0, 0, []), (175, .iaload, 0, 0, 0, []), (176, .isub, 0, 0, 0, []), (177, .iadd, 0, 0, 0, []), (178, .putfield 124, 10, 37, 0, []), (181, .aload_n 0, 0, 0, 0, []), (182, .dup, 0, 0, 0, []), (183, .getfield 127, 10, 38, 0, []), (186, .aload_n 0, 0, 0, 0, []), (187, .getfield 38, 10, 9, 0, []), (190, .iload 7, 0, 0, 0, []), (192, .iaload, 0, 0, 0, []), (193, .aload_n 0, 0, 0, 0, []), (194, .getfield 38, 10, 9, 0, []), (197, .iload 6, 0, 0, 0, []), (199, .iaload, 0, 0, 0, []), (200, .isub, 0, 0, 0, []), (201, .iadd, 0, 0, 0, []), (202, .putfield 127, 10, 38, 0, []), (205, .iinc 7 1, 0, 0, 1, []), (208, .goto (-101), 60, 0, 0, []), (211, .iinc 6 1, 0, 0, 1, []), (214, .goto (-130), 46, 0, 0, []), (217, .iinc 5 1, 0, 0, 1, []), (220, .goto (-193), 16, 0, 0, []), (223, .iinc 4 1, 0, 0, 1, []), (226, .goto (-211), 10, 0, 0, []), (229, .iload_n 3, 0, 0, 0, []), (230, .ireturn, 0, 0, 0, [])]
-- 129 WhoIsWhoModel.pairs(II)I
def am_c129 : List am_E := [(0, .aload_n 0, 0, 0, 0, []), (1, .iload_n 1, 0, 0, 0, []), (2, .invokevirtual 138, 83, 1, 0, []), (5, .ifCond .eq 11, 8, 0, 0, []), (8, .aload_n 0, 0, 0, 0, []), (9, .iload_n 2, 0, 0, 0, []), (10, .invokevirtual 138, 83, 1, 0, []), (13, .ifCond .ne 5, 10, 0, 0, []), (16, .iconst (-1), 0, 0, (-1), []), (17, .ireturn, 0, 0, 0, []), (18, .iload_n 1, 0, 0, 0, []), (19, .iload_n 2, 0, 0, 0, []), (20, .if_icmp .ne 8, 15, 0, 0, []), (23, .bipush (-2), 0, 0, (-2), []), (25, .goto 9, 19, 0, 0, []), (28, .aload_n 0, 0, 0, 0, []), (29, .iload_n 1, 0, 0, 0, []), (30, .iload_n 2, 0, 0, 0, []), (31, .invokevirtual 216, 128, 2, 0, []), (34, .ireturn, 0, 0, 0, [])]
-- 130 WhoIsWhoModel.level(III)I
def am_c130 : List am_E := [(0, .aload_n 0, 0, 0, 0, []), (1, .iload_n 1, 0, 0, 0, []), (2, .invokevirtual 138, 83, 1, 0, []), (5, .ifCond .eq 26, 17, 0, 0, []), (8, .aload_n 0, 0, 0, 0, []), (9, .iload_n 2, 0, 0, 0, []), (10, .invokevirtual 138, 83, 1, 0, []), (13, .ifCond .eq 18, 17, 0, 0, []), (16, .iload_n 1, 0, 0, 0, []), (17, .iload_n 2, 0, 0, 0, []), (18, .if_icmp .eq 13, 17, 0, 0, []), (21, .aload_n 0, 0, 0, 0, []), (22, .iload_n 3, 0, 0, 0, []), (23, .iconst 0, 0, 0, 0, []), (24, .iconst 1, 0, 0, 1, []), (25, .invokevirtual 130, 82, 3, 0, []), (28, .ifCond .ne 6, 19, 0, 0, []), (31, .ldc 196, 0, 0, (-2147483648), []), (33, .ireturn, 0, 0, 0, []), (34, .aload_n 0, 0, 0, 0, []), (35, .iload_n 1, 0, 0, 0, []), (36, .iload_n 2, 0, 0, 0, []), (37, .invokevirtual 216, 128, 2, 0, []), (40, .istore 4, 0, 0, 0, []), (42, .iload 4, 0, 0, 0, []), (44, .ifCond .ne 8, 28, 0, 0, []), (47, .ldc 196, 0, 0, (-2147483648), []), (49, .goto 24, 38, 0, 0, []), (52, .aload_n 0, 0, 0, 0, []), (53, .iload_n 3, 0, 0, 0, []), (54, .ifCond .ne 10, 34, 0, 0, []), (57, .aload_n 0, 0, 0, 0, []), (58, .getfield 124, 10, 37, 0, []), (61, .goto 7, 36, 0, 0, []), (64, .aload_n 0, 0, 0, 0, []), (65, .getfield 127, 10, 38, 0, []), (68, .iload 4, 0, 0, 0, []), (70, .invokevirtual 157, 102, 2, 0, []), (73, .ireturn, 0, 0, 0, [])]
-- 131 WhoIsWhoModel.kept50(I)I
def am_c131 : List am_E := [(0, .iload_n 1, 0, 0, 0, []), (1, .bipush (-50), 0, 0, (-50), []), (3, .if_icmp .ge 8, 5, 0, 0, []), (6, .bipush (-50), 0, 0, (-50), []), (8, .goto 15, 11, 0, 0, []), (11, .iload_n 1, 0, 0, 0, []), (12, .bipush 50, 0, 0, 50, []), (14, .if_icmp .le 8, 10, 0, 0, []), (17, .bipush 50, 0, 0, 50, []), (19, .goto 4, 11, 0, 0, []), (22, .iload_n 1, 0, 0, 0, []), (23, .ireturn, 0, 0, 0, [])]
-- 132 WhoIsWhoModel.right(II)I
def am_c132 : List am_E := [(0, .aload_n 0, 0, 0, 0, []), (1, .iload_n 1, 0, 0, 0, []), (2, .invokevirtual 138, 83, 1, 0, []), (5, .ifCond .eq 11, 8, 0, 0, []), (8, .aload_n 0, 0, 0, 0, []), (9, .iload_n 2, 0, 0, 0, []), (10, .invokevirtual 138, 83, 1, 0, []), (13, .ifCond .ne 5, 10, 0, 0, []), (16, .iconst (-1), 0, 0, (-1), []), (17, .ireturn, 0, 0, 0, []), (18, .iload_n 1, 0, 0, 0, []), (19, .iload_n 2, 0, 0, 0, []), (20, .if_icmp .ne 6, 15, 0, 0, []), (23, .bipush (-2), 0, 0, (-2), []), (25, .ireturn, 0, 0, 0, []), (26, .aload_n 0, 0, 0, 0, []), (27, .iload_n 1, 0, 0, 0, []), (28, .iload_n 2, 0, 0, 0, []), (29, .invokevirtual 216, 128, 2, 0, []), (32, .istore_n 3, 0, 0, 0, []), (33, .iload_n 3, 0, 0, 0, []), (34, .ifCond .ne 6, 24, 0, 0, []), (37, .bipush (-3), 0, 0, (-3), []), (39, .ireturn, 0, 0, 0, []), (40, .aload_n 0, 0, 0, 0, []), (41, .aload_n 0, 0, 0, 0, []), (42, .getfield 19, 10, 3, 0, []), (45, .iload_n 1, 0, 0, 0, []), (46, .iaload, 0, 0, 0, []), (47, .aload_n 0, 0, 0, 0, []), (48, .aload_n 0, 0, 0, 0, []), (49, .getfield 124, 10, 37, 0, []), (52, .iload_n 3, 0, 0, 0, []), (53, .invokevirtual 157, 102, 2, 0, []), (56, .isub, 0, 0, 0, []), (57, .invokevirtual 219, 131, 1, 0, []), (60, .istore 4, 0, 0, 0, []), (62, .aload_n 0, 0, 0, 0, []), (63, .aload_n 0, 0, 0, 0, []), (64, .getfield 23, 10, 4, 0, []), (67, .iload_n 1, 0, 0, 0, []), (68, .iaload, 0, 0, 0, []), (69, .aload_n 0, 0, 0, 0, []), (70, .aload_n 0, 0, 0, 0, []), (71, .getfield 127, 10, 38, 0, []), (74, .iload_n 3, 0, 0, 0, []), (75, .invokevirtual 157, 102, 2, 0, []), (78, .isub, 0, 0, 0, []), (79, .invokevirtual 219, 131, 1, 0, []), (82, .istore 5, 0, 0, 0, []), (84, .iload 4, 0, 0, 0, []), (86, .aload_n 0, 0, 0, 0, []), (87, .getfield 19, 10, 3, 0, []), (90, .iload_n 2, 0, 0, 0, []), (91, .iaload, 0, 0, 0, []), (92, .if_icmp .eq 7, 58, 0, 0, []), (95, .iconst 1, 0, 0, 1, []), (96, .goto 4, 59, 0, 0, []), (99, .iconst 0, 0, 0, 0, []), (100, .iload 5, 0, 0, 0, []), (102, .aload_n 0, 0, 0, 0, []), (103, .getfield 23, 10, 4, 0, []), (106, .iload_n 2, 0, 0, 0, []), (107, .iaload, 0, 0, 0, []), (108, .if_icmp .eq 7, 67, 0, 0, []), (111, .iconst 1, 0, 0, 1, []), (112, .goto 4, 68, 0, 0, []), (115, .iconst 0, 0, 0, 0, []), (116, .iadd, 0, 0, 0, []), (117, .istore 6, 0, 0, 0, []), (119, .aload_n 0, 0, 0, 0, []), (120, .getfield 19, 10, 3, 0, []), (123, .iload_n 2, 0, 0, 0, []), (124, .iload 4, 0, 0, 0, []), (126, .iastore, 0, 0, 0, []), (127, .aload_n 0, 0, 0, 0, []), (128, .getfield 23, 10, 4, 0, []), (131, .iload_n 2, 0, 0, 0, []), (132, .iload 5, 0, 0, 0, []), (134, .iastore, 0, 0, 0, []), (135, .aload_n 0, 0, 0, 0, []), (136, .iconst 1, 0, 0, 1, []), (137, .putfield 59, 10, 16, 0, []), (140, .iload 6, 0, 0, 0, []), (142, .ireturn, 0, 0, 0, [])]
-- 133 WhoIsWhoModel.count(I)I
def am_c133 : List am_E := [(0, .aload_n 0, 0, 0, 0, []), (1, .invokevirtual 190, 107, 0, 0, []), (4, .iconst 0, 0, 0, 0, []), (5, .istore_n 2, 0, 0, 0, []), (6, .iload_n 1, 0, 0, 0, []), (7, .tableswitch 133 0 5 #[37, 42, 47, 52, 52, 52], 60, 0, 0, [6, 9, 12, 15, 15, 15]), (44, .aload_n 0, 0, 0, 0, []), (45, .getfield 7, 10, 0, 0, []), (48, .ireturn, 0, 0, 0, []), (49, .aload_n 0, 0, 0, 0, []), (50, .getfield 13, 10, 1, 0, []), (53, .ireturn, 0, 0, 0, []), (54, .aload_n 0, 0, 0, 0, []), (55, .getfield 16, 10, 2, 0, []), (58, .ireturn, 0, 0, 0, []), (59, .iconst 0, 0, 0, 0, []), (60, .istore_n 3, 0, 0, 0, []), (61, .iload_n 3, 0, 0, 0, []), (62, .aload_n 0, 0, 0, 0, []), (63, .getfield 13, 10, 1, 0, []), (66, .if_icmp .ge 72, 58, 0, 0, []), (69, .iconst 0, 0, 0, 0, []), (70, .istore 4, 0, 0, 0, []), (72, .iload 4, 0, 0, 0, []), (74, .aload_n 0, 0, 0, 0, []), (75, .getfield 32, 10, 7, 0, []), (78, .iload_n 3, 0, 0, 0, []), (79, .iaload, 0, 0, 0, []), (80, .if_icmp .ge 52, 56, 0, 0, []), (83, .iload_n 2, 0, 0, 0, []), (84, .iload_n 1, 0, 0, 0, []), (85, .iconst 3, 0, 0, 3, []), (86, .if_icmp .eq 33, 49, 0, 0, []), (89, .iload_n 1, 0, 0, 0, []), (90, .iconst 4, 0, 0, 4, []), (91, .if_icmp .ne 18, 44, 0, 0, []), (94, .aload_n 0, 0, 0, 0, []), (95, .iconst 0, 0, 0, 0, []), (96, .iload_n 3, 0, 0, 0, []), (97, .iload 4, 0, 0, 0, []), (99, .invokevirtual 204, 115, 3, 0, []), (102, .iconst (-1), 0, 0, (-1), []), (103, .if_icmp .ne 20, 51, 0, 0, []), (106, .goto 13, 49, 0, 0, []), (109, .aload_n 0, 0, 0, 0, []), (110, .iload_n 3, 0, 0, 0, []), (111, .iload 4, 0, 0, 0, []), (113, .invokevirtual 207, 120, 2, 0, []), (116, .ifCond .ne 7, 51, 0, 0, []), (119, .iconst 1, 0, 0, 1, []), (120, .goto 4, 52, 0, 0, []), (123, .iconst 0, 0, 0, 0, []), (124, .iadd, 0, 0, 0, []), (125, .istore_n 2, 0, 0, 0, []), (126, .iinc 4 1, 0, 0, 1, []), (129, .goto (-57), 23, 0, 0, []), (132, .iinc 3 1, 0, 0, 1, []), (135, .goto (-74), 17, 0, 0, []), (138, .iload_n 2, 0, 0, 0, []), (139, .ireturn, 0, 0, 0, []), (140, .iconst (-1), 0, 0, (-1), []), (141, .ireturn, 0, 0, 0, [])]
-- 134 java/lang/Math.floorDiv(II)I
def am_c134 : List am_E := [(0, .iload_n 0, 0, 0, 0, []), (1, .iload_n 1, 0, 0, 0, []), (2, .idiv, 0, 0, 0, []), (3, .istore_n 2, 0, 0, 0, []), (4, .iload_n 0, 0, 0, 0, []), (5, .iload_n 1, 0, 0, 0, []), (6, .ixor, 0, 0, 0, []), (7, .ifCond .ge 14, 17, 0, 0, []), (10, .iload_n 2, 0, 0, 0, []), (11, .iload_n 1, 0, 0, 0, []), (12, .imul, 0, 0, 0, []), (13, .iload_n 0, 0, 0, 0, []), (14, .if_icmp .eq 7, 17, 0, 0, []), (17, .iload_n 2, 0, 0, 0, []), (18, .iconst 1, 0, 0, 1, []), (19, .isub, 0, 0, 0, []), (20, .ireturn, 0, 0, 0, []), (21, .iload_n 2, 0, 0, 0, []), (22, .ireturn, 0, 0, 0, [])]
-- 135 java/lang/Math.max(II)I
def am_c135 : List am_E := [(0, .iload_n 0, 0, 0, 0, []), (1, .iload_n 1, 0, 0, 0, []), (2, .if_icmp .lt 7, 5, 0, 0, []), (5, .iload_n 0, 0, 0, 0, []), (6, .goto 4, 6, 0, 0, []), (9, .iload_n 1, 0, 0, 0, []), (10, .ireturn, 0, 0, 0, [])]
-- 136 java/lang/Math.min(II)I
def am_c136 : List am_E := [(0, .iload_n 0, 0, 0, 0, []), (1, .iload_n 1, 0, 0, 0, []), (2, .if_icmp .gt 7, 5, 0, 0, []), (5, .iload_n 0, 0, 0, 0, []), (6, .goto 4, 6, 0, 0, []), (9, .iload_n 1, 0, 0, 0, []), (10, .ireturn, 0, 0, 0, [])]
-- 137 WhoIsWhoLaw.law([I)Z
def am_c137 : List am_E := [(0, .new 7, 0, 0, 0, []), (3, .dup, 0, 0, 0, []), (4, .invokespecial 9, 0, 0, 0, []), (7, .astore_n 1, 0, 0, 0, []), (8, .new 10, 0, 0, 0, []), (11, .dup, 0, 0, 0, []), (12, .invokespecial 12, 0, 0, 0, []), (15, .astore_n 2, 0, 0, 0, []), (16, .iconst 0, 0, 0, 0, []), (17, .istore_n 3, 0, 0, 0, []), (18, .iload_n 3, 0, 0, 0, []), (19, .aload_n 0, 0, 0, 0, []), (20, .arraylength, 0, 0, 0, []), (21, .iconst 5, 0, 0, 5, []), (22, .isub, 0, 0, 0, []), (23, .if_icmp .gt 926, 669, 0, 0, []), (26, .aload_n 0, 0, 0, 0, []), (27, .iload_n 3, 0, 0, 0, []), (28, .iaload, 0, 0, 0, []), (29, .bipush 31, 0, 0, 31, []), (31, .iand, 0, 0, 0, []), (32, .tableswitch 911 0 24 #[116, 129, 172, 215, 248, 271, 304, 337, 350, 373, 396, 419, 462, 505, 558, 581, 604, 637, 660, 693, 736, 779, 812, 855, 888], 667, 0, 0, [22, 29, 66, 103, 130, 147, 174, 201, 208, 225, 242, 259, 296, 333, 380, 397, 414, 441, 458, 485, 522, 559, 586, 623, 650]), (148, .aload_n 1, 0, 0, 0, []), (149, .invokevirtual 13, 0, 0, 0, []), (152, .aload_n 2, 0, 0, 0, []), (153, .invokevirtual 17, 86, 0, 0, []), (156, .if_icmp .eq 787, 667, 0, 0, []), (159, .iconst 0, 0, 0, 0, []), (160, .ireturn, 1, 0, 0, []), (161, .aload_n 1, 0, 0, 0, []), (162, .aload_n 0, 0, 0, 0, []), (163, .iload_n 3, 0, 0, 0, []), (164, .iconst 1, 0, 0, 1, []), (165, .iadd, 0, 0, 0, []), (166, .iaload, 0, 0, 0, []), (167, .aload_n 0, 0, 0, 0, []), (168, .iload_n 3, 0, 0, 0, []), (169, .iconst 2, 0, 0, 2, []), (170, .iadd, 0, 0, 0, []), (171, .iaload, 0, 0, 0, []), (172, .aload_n 0, 0, 0, 0, []), (173, .iload_n 3, 0, 0, 0, []), (174, .iconst 3, 0, 0, 3, []), (175, .iadd, 0, 0, 0, []), (176, .iaload, 0, 0, 0, []), (177, .invokevirtual 18, 1, 3, 0, []), (180, .aload_n 2, 0, 0, 0, []), (181, .aload_n 0, 0, 0, 0, []), (182, .iload_n 3, 0, 0, 0, []), (183, .iconst 1, 0, 0, 1, []), (184, .iadd, 0, 0, 0, []), (185, .iaload, 0, 0, 0, []), (186, .aload_n 0, 0, 0, 0, []), (187, .iload_n 3, 0, 0, 0, []), (188, .iconst 2, 0, 0, 2, []), (189, .iadd, 0, 0, 0, []), (190, .iaload, 0, 0, 0, []), (191, .aload_n 0, 0, 0, 0, []), (192, .iload_n 3, 0, 0, 0, []), (193, .iconst 3, 0, 0, 3, []), (194, .iadd, 0, 0, 0, []), (195, .iaload, 0, 0, 0, []), (196, .invokevirtual 22, 87, 3, 0, []), (199, .if_icmp .eq 744, 667, 0, 0, []), (202, .iconst 0, 0, 0, 0, []), (203, .ireturn, 1, 0, 0, []), (204, .aload_n 1, 0, 0, 0, []), (205, .aload_n 0, 0, 0, 0, []), (206, .iload_n 3, 0, 0, 0, []), (207, .iconst 1, 0, 0, 1, []), (208, .iadd, 0, 0, 0, []), (209, .iaload, 0, 0, 0, []), (210, .aload_n 0, 0, 0, 0, []), (211, .iload_n 3, 0, 0, 0, []), (212, .iconst 2, 0, 0, 2, []), (213, .iadd, 0, 0, 0, []), (214, .iaload, 0, 0, 0, []), (215, .aload_n 0, 0, 0, 0, []), (216, .iload_n 3, 0, 0, 0, []), (217, .iconst 3, 0, 0, 3, []), (218, .iadd, 0, 0, 0, []), (219, .iaload, 0, 0, 0, []), (220, .invokevirtual 23, 2, 3, 0, []), (223, .aload_n 2, 0, 0, 0, []), (224, .aload_n 0, 0, 0, 0, []), (225, .iload_n 3, 0, 0, 0, []), (226, .iconst 1, 0, 0, 1, []), (227, .iadd, 0, 0, 0, []), (228, .iaload, 0, 0, 0, []), (229, .aload_n 0, 0, 0, 0, []), (230, .iload_n 3, 0, 0, 0, []), (231, .iconst 2, 0, 0, 2, []), (232, .iadd, 0, 0, 0, []), (233, .iaload, 0, 0, 0, []), (234, .aload_n 0, 0, 0, 0, []), (235, .iload_n 3, 0, 0, 0, []), (236, .iconst 3, 0, 0, 3, []), (237, .iadd, 0, 0, 0, []), (238, .iaload, 0, 0, 0, []), (239, .invokevirtual 26, 88, 3, 0, []), (242, .if_icmp .eq 701, 667, 0, 0, []), (245, .iconst 0, 0, 0, 0, []), (246, .ireturn, 1, 0, 0, []), (247, .aload_n 1, 0, 0, 0, []), (248, .aload_n 0, 0, 0, 0, []), (249, .iload_n 3, 0, 0, 0, []), (250, .iconst 1, 0, 0, 1, []), (251, .iadd, 0, 0, 0, []), (252, .iaload, 0, 0, 0, []), (253, .aload_n 0, 0, 0, 0, []), (254, .iload_n 3, 0, 0, 0, []), (255, .iconst 2, 0, 0, 2, []), (256, .iadd, 0, 0, 0, []), (257, .iaload, 0, 0, 0, []), (258, .invokevirtual 27, 3, 2, 0, []), (261, .aload_n 2, 0, 0, 0, []), (262, .aload_n 0, 0, 0, 0, []), (263, .iload_n 3, 0, 0, 0, []), (264, .iconst 1, 0, 0, 1, []), (265, .iadd, 0, 0, 0, []), (266, .iaload, 0, 0, 0, []), (267, .aload_n 0, 0, 0, 0, []), (268, .iload_n 3, 0, 0, 0, []), (269, .iconst 2, 0, 0, 2, []), (270, .iadd, 0, 0, 0, []), (271, .iaload, 0, 0, 0, []), (272, .invokevirtual 31, 89, 2, 0, []), (275, .if_icmp .eq 668, 667, 0, 0, []), (278, .iconst 0, 0, 0, 0, []), (279, .ireturn, 1, 0, 0, []), (280, .aload_n 1, 0, 0, 0, []), (281, .aload_n 0, 0, 0, 0, []), (282, .iload_n 3, 0, 0, 0, []), (283, .iconst 1, 0, 0, 1, []), (284, .iadd, 0, 0, 0, []), (285, .iaload, 0, 0, 0, []), (286, .invokevirtual 32, 4, 1, 0, []), (289, .aload_n 2, 0, 0, 0, []), (290, .aload_n 0, 0, 0, 0, []), (291, .iload_n 3, 0, 0, 0, []), (292, .iconst 1, 0, 0, 1, []), (293, .iadd, 0, 0, 0, []), (294, .iaload, 0, 0, 0, []), (295, .invokevirtual 36, 90, 1, 0, []), (298, .if_icmp .eq 645, 667, 0, 0, []), (301, .iconst 0, 0, 0, 0, []), (302, .ireturn, 1, 0, 0, []), (303, .aload_n 1, 0, 0, 0, []), (304, .aload_n 0, 0, 0, 0, []), (305, .iload_n 3, 0, 0, 0, []), (306, .iconst 1, 0, 0, 1, []), (307, .iadd, 0, 0, 0, []), (308, .iaload, 0, 0, 0, []), (309, .aload_n 0, 0, 0, 0, []), (310, .iload_n 3, 0, 0, 0, []), (311, .iconst 2, 0, 0, 2, []), (312, .iadd, 0, 0, 0, []), (313, .iaload, 0, 0, 0, []), (314, .invokevirtual 37, 5, 2, 0, []), (317, .aload_n 2, 0, 0, 0, []), (318, .aload_n 0, 0, 0, 0, []), (319, .iload_n 3, 0, 0, 0, []), (320, .iconst 1, 0, 0, 1, []), (321, .iadd, 0, 0, 0, []), (322, .iaload, 0, 0, 0, []), (323, .aload_n 0, 0, 0, 0, []), (324, .iload_n 3, 0, 0, 0, []), (325, .iconst 2, 0, 0, 2, []), (326, .iadd, 0, 0, 0, []), (327, .iaload, 0, 0, 0, []), (328, .invokevirtual 40, 91, 2, 0, []), (331, .if_icmp .eq 612, 667, 0, 0, []), (334, .iconst 0, 0, 0, 0, []), (335, .ireturn, 1, 0, 0, []), (336, .aload_n 1, 0, 0, 0, []), (337, .aload_n 0, 0, 0, 0, []), (338, .iload_n 3, 0, 0, 0, []), (339, .iconst 1, 0, 0, 1, []), (340, .iadd, 0, 0, 0, []), (341, .iaload, 0, 0, 0, []), (342, .aload_n 0, 0, 0, 0, []), (343, .iload_n 3, 0, 0, 0, []), (344, .iconst 2, 0, 0, 2, []), (345, .iadd, 0, 0, 0, []), (346, .iaload, 0, 0, 0, []), (347, .invokevirtual 41, 6, 2, 0, []), (350, .aload_n 2, 0, 0, 0, []), (351, .aload_n 0, 0, 0, 0, []), (352, .iload_n 3, 0, 0, 0, []), (353, .iconst 1, 0, 0, 1, []), (354, .iadd, 0, 0, 0, []), (355, .iaload, 0, 0, 0, []), (356, .aload_n 0, 0, 0, 0, []), (357, .iload_n 3, 0, 0, 0, []), (358, .iconst 2, 0, 0, 2, []), (359, .iadd, 0, 0, 0, []), (360, .iaload, 0, 0, 0, []), (361, .invokevirtual 44, 92, 2, 0, []), (364, .if_icmp .eq 579, 667, 0, 0, []), (367, .iconst 0, 0, 0, 0, []), (368, .ireturn, 1, 0, 0, []), (369, .aload_n 1, 0, 0, 0, []), (370, .invokevirtual 45, 7, 0, 0, []), (373, .aload_n 2, 0, 0, 0, []), (374, .invokevirtual 48, 110, 0, 0, []), (377, .if_icmp .eq 566, 667, 0, 0, []), (380, .iconst 0, 0, 0, 0, []), (381, .ireturn, 1, 0, 0, []), (382, .aload_n 1, 0, 0, 0, []), (383, .aload_n 0, 0, 0, 0, []), (384, .iload_n 3, 0, 0, 0, []), (385, .iconst 1, 0, 0, 1, []), (386, .iadd, 0, 0, 0, []), (387, .iaload, 0, 0, 0, []), (388, .invokevirtual 49, 8, 1, 0, []), (391, .aload_n 2, 0, 0, 0, []), (392, .aload_n 0, 0, 0, 0, []), (393, .iload_n 3, 0, 0, 0, []), (394, .iconst 1, 0, 0, 1, []), (395, .iadd, 0, 0, 0, []), (396, .iaload, 0, 0, 0, []), (397, .invokevirtual 52, 111, 1, 0, []), (400, .if_icmp .eq 543, 667, 0, 0, []), (403, .iconst 0, 0, 0, 0, []), (404, .ireturn, 1, 0, 0, []), (405, .aload_n 1, 0, 0, 0, []), (406, .aload_n 0, 0, 0, 0, []), (407, .iload_n 3, 0, 0, 0, []), (408, .iconst 1, 0, 0, 1, []), (409, .iadd, 0, 0, 0, []), (410, .iaload, 0, 0, 0, []), (411, .invokevirtual 53, 9, 1, 0, []), (414, .aload_n 2, 0, 0, 0, []), (415, .aload_n 0, 0, 0, 0, []), (416, .iload_n 3, 0, 0, 0, []), (417, .iconst 1, 0, 0, 1, []), (418, .iadd, 0, 0, 0, []), (419, .iaload, 0, 0, 0, []), (420, .invokevirtual 56, 112, 1, 0, []), (423, .if_icmp .eq 520, 667, 0, 0, []), (426, .iconst 0, 0, 0, 0, []), (427, .ireturn, 1, 0, 0, []), (428, .aload_n 1, 0, 0, 0, []), (429, .aload_n 0, 0, 0, 0, []), (430, .iload_n 3, 0, 0, 0, []), (431, .iconst 1, 0, 0, 1, []), (432, .iadd, 0, 0, 0, []), (433, .iaload, 0, 0, 0, []), (434, .invokevirtual 57, 10, 1, 0, []), (437, .aload_n 2, 0, 0, 0, []), (438, .aload_n 0, 0, 0, 0, []), (439, .iload_n 3, 0, 0, 0, []), (440, .iconst 1, 0, 0, 1, []), (441, .iadd, 0, 0, 0, []), (442, .iaload, 0, 0, 0, []), (443, .invokevirtual 60, 113, 1, 0, []), (446, .if_icmp .eq 497, 667, 0, 0, []), (449, .iconst 0, 0, 0, 0, []), (450, .ireturn, 1, 0, 0, []), (451, .aload_n 1, 0, 0, 0, []), (452, .aload_n 0, 0, 0, 0, []), (453, .iload_n 3, 0, 0, 0, []), (454, .iconst 1, 0, 0, 1, []), (455, .iadd, 0, 0, 0, []), (456, .iaload, 0, 0, 0, []), (457, .aload_n 0, 0, 0, 0, []), (458, .iload_n 3, 0, 0, 0, []), (459, .iconst 2, 0, 0, 2, []), (460, .iadd, 0, 0, 0, []), (461, .iaload, 0, 0, 0, []), (462, .aload_n 0, 0, 0, 0, []), (463, .iload_n 3, 0, 0, 0, []), (464, .iconst 3, 0, 0, 3, []), (465, .iadd, 0, 0, 0, []), (466, .iaload, 0, 0, 0, []), (467, .invokevirtual 61, 11, 3, 0, []), (470, .aload_n 2, 0, 0, 0, []), (471, .aload_n 0, 0, 0, 0, []), (472, .iload_n 3, 0, 0, 0, []), (473, .iconst 1, 0, 0, 1, []), (474, .iadd, 0, 0, 0, []), (475, .iaload, 0, 0, 0, []), (476, .aload_n 0, 0, 0, 0, []), (477, .iload_n 3, 0, 0, 0, []), (478, .iconst 2, 0, 0, 2, []), (479, .iadd, 0, 0, 0, []), (480, .iaload, 0, 0, 0, []), (481, .aload_n 0, 0, 0, 0, []), (482, .iload_n 3, 0, 0, 0, []), (483, .iconst 3, 0, 0, 3, []), (484, .iadd, 0, 0, 0, []), (485, .iaload, 0, 0, 0, []), (486, .invokevirtual 64, 114, 3, 0, []), (489, .if_icmp .eq 454, 667, 0, 0, []), (492, .iconst 0, 0, 0, 0, []), (493, .ireturn, 1, 0, 0, []), (494, .aload_n 1, 0, 0, 0, []), (495, .aload_n 0, 0, 0, 0, []), (496, .iload_n 3, 0, 0, 0, []), (497, .iconst 1, 0, 0, 1, []), (498, .iadd, 0, 0, 0, []), (499, .iaload, 0, 0, 0, []), (500, .aload_n 0, 0, 0, 0, []), (501, .iload_n 3, 0, 0, 0, []), (502, .iconst 2, 0, 0, 2, []), (503, .iadd, 0, 0, 0, []), (504, .iaload, 0, 0, 0, []), (505, .aload_n 0, 0, 0, 0, []), (506, .iload_n 3, 0, 0, 0, []), (507, .iconst 3, 0, 0, 3, []), (508, .iadd, 0, 0, 0, []), (509, .iaload, 0, 0, 0, []), (510, .invokevirtual 65, 12, 3, 0, []), (513, .aload_n 2, 0, 0, 0, []), (514, .aload_n 0, 0, 0, 0, []), (515, .iload_n 3, 0, 0, 0, []), (516, .iconst 1, 0, 0, 1, []), (517, .iadd, 0, 0, 0, []), (518, .iaload, 0, 0, 0, []), (519, .aload_n 0, 0, 0, 0, []), (520, .iload_n 3, 0, 0, 0, []), (521, .iconst 2, 0, 0, 2, []), (522, .iadd, 0, 0, 0, []), (523, .iaload, 0, 0, 0, []), (524, .aload_n 0, 0, 0, 0, []), (525, .iload_n 3, 0, 0, 0, []), (526, .iconst 3, 0, 0, 3, []), (527, .iadd, 0, 0, 0, []), (528, .iaload, 0, 0, 0, []), (529, .invokevirtual 68, 116, 3, 0, []), (532, .if_icmp .eq 411, 667, 0, 0, []), (535, .iconst 0, 0, 0, 0, []), (536, .ireturn, 1, 0, 0, []), (537, .aload_n 1, 0, 0, 0, []), (538, .aload_n 0, 0, 0, 0, []), (539, .iload_n 3, 0, 0, 0, []), (540, .iconst 1, 0, 0, 1, []), (541, .iadd, 0, 0, 0, []), (542, .iaload, 0, 0, 0, []), (543, .aload_n 0, 0, 0, 0, []), (544, .iload_n 3, 0, 0, 0, []), (545, .iconst 2, 0, 0, 2, []), (546, .iadd, 0, 0, 0, []), (547, .iaload, 0, 0, 0, []), (548, .aload_n 0, 0, 0, 0, []), (549, .iload_n 3, 0, 0, 0, []), (550, .iconst 3, 0, 0, 3, []), (551, .iadd, 0, 0, 0, []), (552, .iaload, 0, 0, 0, []), (553, .aload_n 0, 0, 0, 0, []), (554, .iload_n 3, 0, 0, 0, []), (555, .iconst 4, 0, 0, 4, []), (556, .iadd, 0, 0, 0, []), (557, .iaload, 0, 0, 0, []), (558, .invokevirtual 69, 13, 4, 0, []), (561, .aload_n 2, 0, 0, 0, []), (562, .aload_n 0, 0, 0, 0, []), (563, .iload_n 3, 0, 0, 0, []), (564, .iconst 1, 0, 0, 1, []), (565, .iadd, 0, 0, 0, []), (566, .iaload, 0, 0, 0, []), (567, .aload_n 0, 0, 0, 0, []), (568, .iload_n 3, 0, 0, 0, []), (569, .iconst 2, 0, 0, 2, []), (570, .iadd, 0, 0, 0, []), (571, .iaload, 0, 0, 0, []), (572, .aload_n 0, 0, 0, 0, []), (573, .iload_n 3, 0, 0, 0, []), (574, .iconst 3, 0, 0, 3, []), (575, .iadd, 0, 0, 0, []), (576, .iaload, 0, 0, 0, []), (577, .aload_n 0, 0, 0, 0, []), (578, .iload_n 3, 0, 0, 0, []), (579, .iconst 4, 0, 0, 4, []), (580, .iadd, 0, 0, 0, []), (581, .iaload, 0, 0, 0, []), (582, .invokevirtual 73, 117, 4, 0, []), (585, .if_icmp .eq 358, 667, 0, 0, []), (588, .iconst 0, 0, 0, 0, []), (589, .ireturn, 1, 0, 0, []), (590, .aload_n 1, 0, 0, 0, []), (591, .aload_n 0, 0, 0, 0, []), (592, .iload_n 3, 0, 0, 0, []), (593, .iconst 1, 0, 0, 1, []), (594, .iadd, 0, 0, 0, []), (595, .iaload, 0, 0, 0, []), (596, .invokevirtual 74, 14, 1, 0, []), (599, .aload_n 2, 0, 0, 0, []), (600, .aload_n 0, 0, 0, 0, []), (601, .iload_n 3, 0, 0, 0, []), (602, .iconst 1, 0, 0, 1, []), (603, .iadd, 0, 0, 0, []), (604, .iaload, 0, 0, 0, []), (605, .invokevirtual 77, 118, 1, 0, []), (608, .if_icmp .eq 335, 667, 0, 0, []), (611, .iconst 0, 0, 0, 0, []), (612, .ireturn, 1, 0, 0, []), (613, .aload_n 1, 0, 0, 0, []), (614, .aload_n 0, 0, 0, 0, []), (615, .iload_n 3, 0, 0, 0, []), (616, .iconst 1, 0, 0, 1, []), (617, .iadd, 0, 0, 0, []), (618, .iaload, 0, 0, 0, []), (619, .invokevirtual 78, 15, 1, 0, []), (622, .aload_n 2, 0, 0, 0, []), (623, .aload_n 0, 0, 0, 0, []), (624, .iload_n 3, 0, 0, 0, []), (625, .iconst 1, 0, 0, 1, []), (626, .iadd, 0, 0, 0, []), (627, .iaload, 0, 0, 0, []), (628, .invokevirtual 81, 119, 1, 0, []), (631, .if_icmp .eq 312, 667, 0, 0, []), (634, .iconst 0, 0, 0, 0, []), (635, .ireturn, 1, 0, 0, []), (636, .aload_n 1, 0, 0, 0, []), (637, .aload_n 0, 0, 0, 0, []), (638, .iload_n 3, 0, 0, 0, []), (639, .iconst 1, 0, 0, 1, []), (640, .iadd, 0, 0, 0, []), (641, .iaload, 0, 0, 0, []), (642, .aload_n 0, 0, 0, 0, []), (643, .iload_n 3, 0, 0, 0, []), (644, .iconst 2, 0, 0, 2, []), (645, .iadd, 0, 0, 0, []), (646, .iaload, 0, 0, 0, []), (647, .invokevirtual 82, 16, 2, 0, []), (650, .aload_n 2, 0, 0, 0, []), (651, .aload_n 0, 0, 0, 0, []), (652, .iload_n 3, 0, 0, 0, []), (653, .iconst 1, 0, 0, 1, []), (654, .iadd, 0, 0, 0, []), (655, .iaload, 0, 0, 0, []), (656, .aload_n 0, 0, 0, 0, []), (657, .iload_n 3, 0, 0, 0, []), (658, .iconst 2, 0, 0, 2, []), (659, .iadd, 0, 0, 0, []), (660, .iaload, 0, 0, 0, []), (661, .invokevirtual 85, 121, 2, 0, []), (664, .if_icmp .eq 279, 667, 0, 0, []), (667, .iconst 0, 0, 0, 0, []), (668, .ireturn, 1, 0, 0, []), (669, .aload_n 1, 0, 0, 0, []), (670, .aload_n 0, 0, 0, 0, []), (671, .iload_n 3, 0, 0, 0, []), (672, .iconst 1, 0, 0, 1, []), (673, .iadd, 0, 0, 0, []), (674, .iaload, 0, 0, 0, []), (675, .invokevirtual 86, 17, 1, 0, []), (678, .aload_n 2, 0, 0, 0, []), (679, .aload_n 0, 0, 0, 0, []), (680, .iload_n 3, 0, 0, 0, []), (681, .iconst 1, 0, 0, 1, []), (682, .iadd, 0, 0, 0, []), (683, .iaload, 0, 0, 0, []), (684, .invokevirtual 89, 122, 1, 0, []), (687, .if_icmp .eq 256, 667, 0, 0, []), (690, .iconst 0, 0, 0, 0, []), (691, .ireturn, 1, 0, 0, []), (692, .aload_n 1, 0, 0, 0, []), (693, .aload_n 0, 0, 0, 0, []), (694, .iload_n 3, 0, 0, 0, []), (695, .iconst 1, 0, 0, 1, []), (696, .iadd, 0, 0, 0, []), (697, .iaload, 0, 0, 0, []), (698, .aload_n 0, 0, 0, 0, []), (699, .iload_n 3, 0, 0, 0, []), (700, .iconst 2, 0, 0, 2, []), (701, .iadd, 0, 0, 0, []), (702, .iaload, 0, 0, 0, []), (703, .invokevirtual 90, 18, 2, 0, []), (706, .aload_n 2, 0, 0, 0, []), (707, .aload_n 0, 0, 0, 0, []), (708, .iload_n 3, 0, 0, 0, []), (709, .iconst 1, 0, 0, 1, []), (710, .iadd, 0, 0, 0, []), (711, .iaload, 0, 0, 0, []), (712, .aload_n 0, 0, 0, 0, []), (713, .iload_n 3, 0, 0, 0, []), (714, .iconst 2, 0, 0, 2, []), (715, .iadd, 0, 0, 0, []), (716, .iaload, 0, 0, 0, []), (717, .invokevirtual 93, 123, 2, 0, []), (720, .if_icmp .eq 223, 667, 0, 0, []), (723, .iconst 0, 0, 0, 0, []), (724, .ireturn, 1, 0, 0, []), (725, .aload_n 1, 0, 0, 0, []), (726, .aload_n 0, 0, 0, 0, []), (727, .iload_n 3, 0, 0, 0, []), (728, .iconst 1, 0, 0, 1, []), (729, .iadd, 0, 0, 0, []), (730, .iaload, 0, 0, 0, []), (731, .aload_n 0, 0, 0, 0, []), (732, .iload_n 3, 0, 0, 0, []), (733, .iconst 2, 0, 0, 2, []), (734, .iadd, 0, 0, 0, []), (735, .iaload, 0, 0, 0, []), (736, .aload_n 0, 0, 0, 0, []), (737, .iload_n 3, 0, 0, 0, []), (738, .iconst 3, 0, 0, 3, []), (739, .iadd, 0, 0, 0, []), (740, .iaload, 0, 0, 0, []), (741, .invokevirtual 94, 19, 3, 0, []), (744, .aload_n 2, 0, 0, 0, []), (745, .aload_n 0, 0, 0, 0, []), (746, .iload_n 3, 0, 0, 0, []), (747, .iconst 1, 0, 0, 1, []), (748, .iadd, 0, 0, 0, []), (749, .iaload, 0, 0, 0, []), (750, .aload_n 0, 0, 0, 0, []), (751, .iload_n 3, 0, 0, 0, []), (752, .iconst 2, 0, 0, 2, []), (753, .iadd, 0, 0, 0, []), (754, .iaload, 0, 0, 0, []), (755, .aload_n 0, 0, 0, 0, []), (756, .iload_n 3, 0, 0, 0, []), (757, .iconst 3, 0, 0, 3, []), (758, .iadd, 0, 0, 0, []), (759, .iaload, 0, 0, 0, []), (760, .invokevirtual 97, 126, 3, 0, []), (763, .if_icmp .eq 180, 667, 0, 0, []), (766, .iconst 0, 0, 0, 0, []), (767, .ireturn, 1, 0, 0, []), (768, .aload_n 1, 0, 0, 0, []), (769, .aload_n 0, 0, 0, 0, []), (770, .iload_n 3, 0, 0, 0, []), (771, .iconst 1, 0, 0, 1, []), (772, .iadd, 0, 0, 0, []), (773, .iaload, 0, 0, 0, []), (774, .aload_n 0, 0, 0, 0, []), (775, .iload_n 3, 0, 0, 0, []), (776, .iconst 2, 0, 0, 2, []), (777, .iadd, 0, 0, 0, []), (778, .iaload, 0, 0, 0, []), (779, .aload_n 0, 0, 0, 0, []), (780, .iload_n 3, 0, 0, 0, []), (781, .iconst 3, 0, 0, 3, []), (782, .iadd, 0, 0, 0, []), (783, .iaload, 0, 0, 0, []), (784, .invokevirtual 98, 20, 3, 0, []), (787, .aload_n 2, 0, 0, 0, []), (788, .aload_n 0, 0, 0, 0, []), (789, .iload_n 3, 0, 0, 0, []), (790, .iconst 1, 0, 0, 1, []), (791, .iadd, 0, 0, 0, []), (792, .iaload, 0, 0, 0, []), (793, .aload_n 0, 0, 0, 0, []), (794, .iload_n 3, 0, 0, 0, []), (795, .iconst 2, 0, 0, 2, []), (796, .iadd, 0, 0, 0, []), (797, .iaload, 0, 0, 0, []), (798, .aload_n 0, 0, 0, 0, []), (799, .iload_n 3, 0, 0, 0, []), (800, .iconst 3, 0, 0, 3, []), (801, .iadd, 0, 0, 0, []), (802, .iaload, 0, 0, 0, []), (803, .invokevirtual 101, 127, 3, 0, []), (806, .if_icmp .eq 137, 667, 0, 0, []), (809, .iconst 0, 0, 0, 0, []), (810, .ireturn, 1, 0, 0, []), (811, .aload_n 1, 0, 0, 0, []), (812, .aload_n 0, 0, 0, 0, []), (813, .iload_n 3, 0, 0, 0, []), (814, .iconst 1, 0, 0, 1, []), (815, .iadd, 0, 0, 0, []), (816, .iaload, 0, 0, 0, []), (817, .aload_n 0, 0, 0, 0, []), (818, .iload_n 3, 0, 0, 0, []), (819, .iconst 2, 0, 0, 2, []), (820, .iadd, 0, 0, 0, []), (821, .iaload, 0, 0, 0, []), (822, .invokevirtual 102, 21, 2, 0, []), (825, .aload_n 2, 0, 0, 0, []), (826, .aload_n 0, 0, 0, 0, []), (827, .iload_n 3, 0, 0, 0, []), (828, .iconst 1, 0, 0, 1, []), (829, .iadd, 0, 0, 0, []), (830, .iaload, 0, 0, 0, []), (831, .aload_n 0, 0, 0, 0, []), (832, .iload_n 3, 0, 0, 0, []), (833, .iconst 2, 0, 0, 2, []), (834, .iadd, 0, 0, 0, []), (835, .iaload, 0, 0, 0, []), (836, .invokevirtual 105, 129, 2, 0, []), (839, .if_icmp .eq 104, 667, 0, 0, []), (842, .iconst 0, 0, 0, 0, []), (843, .ireturn, 1, 0, 0, []), (844, .aload_n 1, 0, 0, 0, []), (845, .aload_n 0, 0, 0, 0, []), (846, .iload_n 3, 0, 0, 0, []), (847, .iconst 1, 0, 0, 1, []), (848, .iadd, 0, 0, 0, []), (849, .iaload, 0, 0, 0, []), (850, .aload_n 0, 0, 0, 0, []), (851, .iload_n 3, 0, 0, 0, []), (852, .iconst 2, 0, 0, 2, []), (853, .iadd, 0, 0, 0, []), (854, .iaload, 0, 0, 0, []), (855, .aload_n 0, 0, 0, 0, []), (856, .iload_n 3, 0, 0, 0, []), (857, .iconst 3, 0, 0, 3, []), (858, .iadd, 0, 0, 0, []), (859, .iaload, 0, 0, 0, []), (860, .invokevirtual 106, 22, 3, 0, []), (863, .aload_n 2, 0, 0, 0, []), (864, .aload_n 0, 0, 0, 0, []), (865, .iload_n 3, 0, 0, 0, []), (866, .iconst 1, 0, 0, 1, []), (867, .iadd, 0, 0, 0, []), (868, .iaload, 0, 0, 0, []), (869, .aload_n 0, 0, 0, 0, []), (870, .iload_n 3, 0, 0, 0, []), (871, .iconst 2, 0, 0, 2, []), (872, .iadd, 0, 0, 0, []), (873, .iaload, 0, 0, 0, []), (874, .aload_n 0, 0, 0, 0, []), (875, .iload_n 3, 0, 0, 0, []), (876, .iconst 3, 0, 0, 3, []), (877, .iadd, 0, 0, 0, []), (878, .iaload, 0, 0, 0, []), (879, .invokevirtual 109, 130, 3, 0, []), (882, .if_icmp .eq 61, 667, 0, 0, []), (885, .iconst 0, 0, 0, 0, []), (886, .ireturn, 1, 0, 0, []), (887, .aload_n 1, 0, 0, 0, []), (888, .aload_n 0, 0, 0, 0, []), (889, .iload_n 3, 0, 0, 0, []), (890, .iconst 1, 0, 0, 1, []), (891, .iadd, 0, 0, 0, []), (892, .iaload, 0, 0, 0, []), (893, .aload_n 0, 0, 0, 0, []), (894, .iload_n 3, 0, 0, 0, []), (895, .iconst 2, 0, 0, 2, []), (896, .iadd, 0, 0, 0, []), (897, .iaload, 0, 0, 0, []), (898, .invokevirtual 110, 23, 2, 0, []), (901, .aload_n 2, 0, 0, 0, []), (902, .aload_n 0, 0, 0, 0, []), (903, .iload_n 3, 0, 0, 0, []), (904, .iconst 1, 0, 0, 1, []), (905, .iadd, 0, 0, 0, []), (906, .iaload, 0, 0, 0, []), (907, .aload_n 0, 0, 0, 0, []), (908, .iload_n 3, 0, 0, 0, []), (909, .iconst 2, 0, 0, 2, []), (910, .iadd, 0, 0, 0, []), (911, .iaload, 0, 0, 0, []), (912, .invokevirtual 113, 132, 2, 0, []), (915, .if_icmp .eq 28, 667, 0, 0, []), (918, .iconst 0, 0, 0, 0, []), (919, .ireturn, 1, 0, 0, []), (920, .aload_n 1, 0, 0, 0, []), (921, .aload_n 0, 0, 0, 0, []), (922, .iload_n 3, 0, 0, 0, []), (923, .iconst 1, 0, 0, 1, []), (924, .iadd, 0, 0, 0, []), (925, .iaload, 0, 0, 0, []), (926, .invokevirtual 114, 24, 1, 0, []), (929, .aload_n 2, 0, 0, 0, []), (930, .aload_n 0, 0, 0, 0, []), (931, .iload_n 3, 0, 0, 0, []), (932, .iconst 1, 0, 0, 1, []), (933, .iadd, 0, 0, 0, []), (934, .iaload, 0, 0, 0, []), (935, .invokevirtual 117, 133, 1, 0, []), (938, .if_icmp .eq 5, 667, 0, 0, []), (941, .iconst 0, 0, 0, 0, []), (942, .ireturn, 1, 0, 0, []), (943, .iinc 3 5, 0, 0, 5, []), (946, .goto (-928), 10, 0, 0, []), (949, .iconst 1, 0, 0, 1, []), (950, .ireturn, 1, 0, 0, [])]
def am_cd (y : Nat) : List am_E := (bif Nat.blt y 69 then (bif Nat.blt y 34 then (bif Nat.blt y 17 then (bif Nat.blt y 8 then (bif Nat.blt y 4 then (bif Nat.blt y 2 then (bif Nat.blt y 1 then am_c0 else am_c1) else (bif Nat.blt y 3 then am_c2 else am_c3)) else (bif Nat.blt y 6 then (bif Nat.blt y 5 then am_c4 else am_c5) else (bif Nat.blt y 7 then am_c6 else am_c7))) else (bif Nat.blt y 12 then (bif Nat.blt y 10 then (bif Nat.blt y 9 then am_c8 else am_c9) else (bif Nat.blt y 11 then am_c10 else am_c11)) else (bif Nat.blt y 14 then (bif Nat.blt y 13 then am_c12 else am_c13) else (bif Nat.blt y 15 then am_c14 else (bif Nat.blt y 16 then am_c15 else am_c16))))) else (bif Nat.blt y 25 then (bif Nat.blt y 21 then (bif Nat.blt y 19 then (bif Nat.blt y 18 then am_c17 else am_c18) else (bif Nat.blt y 20 then am_c19 else am_c20)) else (bif Nat.blt y 23 then (bif Nat.blt y 22 then am_c21 else am_c22) else (bif Nat.blt y 24 then am_c23 else am_c24))) else (bif Nat.blt y 29 then (bif Nat.blt y 27 then (bif Nat.blt y 26 then am_c25 else am_c26) else (bif Nat.blt y 28 then am_c27 else am_c28)) else (bif Nat.blt y 31 then (bif Nat.blt y 30 then am_c29 else am_c30) else (bif Nat.blt y 32 then am_c31 else (bif Nat.blt y 33 then am_c32 else am_c33)))))) else (bif Nat.blt y 51 then (bif Nat.blt y 42 then (bif Nat.blt y 38 then (bif Nat.blt y 36 then (bif Nat.blt y 35 then am_c34 else am_c35) else (bif Nat.blt y 37 then am_c36 else am_c37)) else (bif Nat.blt y 40 then (bif Nat.blt y 39 then am_c38 else am_c39) else (bif Nat.blt y 41 then am_c40 else am_c41))) else (bif Nat.blt y 46 then (bif Nat.blt y 44 then (bif Nat.blt y 43 then am_c42 else am_c43) else (bif Nat.blt y 45 then am_c44 else am_c45)) else (bif Nat.blt y 48 then (bif Nat.blt y 47 then am_c46 else am_c47) else (bif Nat.blt y 49 then am_c48 else (bif Nat.blt y 50 then am_c49 else am_c50))))) else (bif Nat.blt y 60 then (bif Nat.blt y 55 then (bif Nat.blt y 53 then (bif Nat.blt y 52 then am_c51 else am_c52) else (bif Nat.blt y 54 then am_c53 else am_c54)) else (bif Nat.blt y 57 then (bif Nat.blt y 56 then am_c55 else am_c56) else (bif Nat.blt y 58 then am_c57 else (bif Nat.blt y 59 then am_c58 else am_c59)))) else (bif Nat.blt y 64 then (bif Nat.blt y 62 then (bif Nat.blt y 61 then am_c60 else am_c61) else (bif Nat.blt y 63 then am_c62 else am_c63)) else (bif Nat.blt y 66 then (bif Nat.blt y 65 then am_c64 else am_c65) else (bif Nat.blt y 67 then am_c66 else (bif Nat.blt y 68 then am_c67 else am_c68))))))) else (bif Nat.blt y 103 then (bif Nat.blt y 86 then (bif Nat.blt y 77 then (bif Nat.blt y 73 then (bif Nat.blt y 71 then (bif Nat.blt y 70 then am_c69 else am_c70) else (bif Nat.blt y 72 then am_c71 else am_c72)) else (bif Nat.blt y 75 then (bif Nat.blt y 74 then am_c73 else am_c74) else (bif Nat.blt y 76 then am_c75 else am_c76))) else (bif Nat.blt y 81 then (bif Nat.blt y 79 then (bif Nat.blt y 78 then am_c77 else am_c78) else (bif Nat.blt y 80 then am_c79 else am_c80)) else (bif Nat.blt y 83 then (bif Nat.blt y 82 then am_c81 else am_c82) else (bif Nat.blt y 84 then am_c83 else (bif Nat.blt y 85 then am_c84 else am_c85))))) else (bif Nat.blt y 94 then (bif Nat.blt y 90 then (bif Nat.blt y 88 then (bif Nat.blt y 87 then am_c86 else am_c87) else (bif Nat.blt y 89 then am_c88 else am_c89)) else (bif Nat.blt y 92 then (bif Nat.blt y 91 then am_c90 else am_c91) else (bif Nat.blt y 93 then am_c92 else am_c93))) else (bif Nat.blt y 98 then (bif Nat.blt y 96 then (bif Nat.blt y 95 then am_c94 else am_c95) else (bif Nat.blt y 97 then am_c96 else am_c97)) else (bif Nat.blt y 100 then (bif Nat.blt y 99 then am_c98 else am_c99) else (bif Nat.blt y 101 then am_c100 else (bif Nat.blt y 102 then am_c101 else am_c102)))))) else (bif Nat.blt y 120 then (bif Nat.blt y 111 then (bif Nat.blt y 107 then (bif Nat.blt y 105 then (bif Nat.blt y 104 then am_c103 else am_c104) else (bif Nat.blt y 106 then am_c105 else am_c106)) else (bif Nat.blt y 109 then (bif Nat.blt y 108 then am_c107 else am_c108) else (bif Nat.blt y 110 then am_c109 else am_c110))) else (bif Nat.blt y 115 then (bif Nat.blt y 113 then (bif Nat.blt y 112 then am_c111 else am_c112) else (bif Nat.blt y 114 then am_c113 else am_c114)) else (bif Nat.blt y 117 then (bif Nat.blt y 116 then am_c115 else am_c116) else (bif Nat.blt y 118 then am_c117 else (bif Nat.blt y 119 then am_c118 else am_c119))))) else (bif Nat.blt y 129 then (bif Nat.blt y 124 then (bif Nat.blt y 122 then (bif Nat.blt y 121 then am_c120 else am_c121) else (bif Nat.blt y 123 then am_c122 else am_c123)) else (bif Nat.blt y 126 then (bif Nat.blt y 125 then am_c124 else am_c125) else (bif Nat.blt y 127 then am_c126 else (bif Nat.blt y 128 then am_c127 else am_c128)))) else (bif Nat.blt y 133 then (bif Nat.blt y 131 then (bif Nat.blt y 130 then am_c129 else am_c130) else (bif Nat.blt y 132 then am_c131 else am_c132)) else (bif Nat.blt y 135 then (bif Nat.blt y 134 then am_c133 else am_c134) else (bif Nat.blt y 136 then am_c135 else (bif Nat.blt y 137 then am_c136 else am_c137))))))))
end
section
def am_kind (f : Nat) : Nat := (am_nth am_fam f (9, 0, 0, 0)).1
def am_cnt (f : Nat) : Nat := (am_nth am_fam f (9, 0, 0, 0)).2.1
def am_len0 (f : Nat) : Nat := (am_nth am_fam f (9, 0, 0, 0)).2.2.1
def am_cls (f : Nat) : Nat := (am_nth am_fam f (9, 0, 0, 0)).2.2.2
/-- an array's length: the script's stands beside it -/
def am_len (M : am_M) (f : Nat) : Nat := bif Nat.beq f 61 then (M.1 61 1 0).toNatClampNeg else am_len0 f
def am_fty (c k : Nat) : Nat := am_nth (am_nth am_ftyT c []) k 9
/-- the family that a reference leads to: of a field, by its class; of a row of references, by its family -/
def am_rfF (c k : Nat) : Nat := am_nth (am_nth am_rfT c []) k 99
def am_rfA (f : Nat) : Nat := bif Nat.beq f 4 then 18 else bif Nat.beq f 9 then 24 else bif Nat.beq f 12 then 22 else 27
/-- the place that it leads to -/
def am_riF (M : am_M) (f i k : Nat) : Nat := bif Nat.beq f 8 then (bif Nat.beq k 3 then 0 else M.2.1 8 k) else i
def am_riA (M : am_M) (f i k : Nat) : Nat := bif Nat.beq f 4 then M.2.1 4 k else bif Nat.beq f 12 then M.2.1 12 k else bif Nat.beq f 9 then 4 * i + k else 6 * i + k
def am_stT (f k : Nat) : Int32 := bif Nat.beq f 59 then am_nth [0, 0, 0, 0, 1, 1] k 0 else am_nth [500, 100000, 100000, 100000, 9, 4] k 0
/-- an int of an array: of the two constant ones by their tables -/
def am_iv (M : am_M) (f i n : Nat) : Int32 := bif Nat.beq f 59 then am_stT 59 n else bif Nat.beq f 60 then am_stT 60 n else M.1 f i n
def am_fv (M : am_M) (c f i k : Nat) : am_V := match am_fty c k with
  | 2 => .inr (.inl (am_rfF c k, am_riF M f i k))
  | 3 => .inr (.inr M.2.2)
  | _ => .inl (M.1 f i k)
def am_ml (y : Nat) : Nat := (am_nth am_mth y (0, 0, 0, 0)).2.1
def am_mc (y : Nat) : Nat := (am_nth am_mth y (0, 0, 0, 0)).1
def am_mi (y : Nat) : Nat := (am_nth am_mth y (0, 0, 0, 0)).2.2.2
def am_at (y pc : Nat) : Option am_E := am_nth ((am_cd y).map some) pc none
def am_recv (y : Nat) (as : List am_V) : Bool := match as with
  | .inr (.inl q) :: _ => Nat.beq (am_kind q.1) 0 && Nat.beq (am_cls q.1) (am_mc y)
  | _ => false
def am_call (X Y : am_X) (d y pc : Nat) (ls : List (Option am_V)) (M : am_M) (Q : am_P) (callee : Nat) (p : Option (List am_V × List am_V)) (stat : Bool) : Prop := match p with
  | none => False
  | some (as, rest) => bif Nat.ble (am_cat rest) 8 && Nat.ble (am_cat as) (am_ml callee) && (stat || am_recv callee as) then 1 ≤ d ∧ ∃ Q' : am_P, Y (d - 1) callee 0 (am_ent (am_ml callee) as) [] M Q' ∧ ∀ (r : Option am_V) (M' : am_M), Q' r M' → X d y (pc + 1) ls (r.toList ++ rest) M' Q else False
/-- one step: what must hold at a frame, if X is to hold at the next one, Y of the methods that are called -/
def am_F (X Y : am_X) (d y pc : Nat) (ls : List (Option am_V)) (st : List am_V) (M : am_M) (Q : am_P) (en : Option am_E) : Prop := match en with
  | none => False
  | some (_, ins, a, b, z, tg) => match ins with
    | .aload_n k => am_vr (am_nth ls k none) fun f i => X d y (pc + 1) ls (.inr (.inl (f, i)) :: st) M Q
    | .aload k => am_vr (am_nth ls k none) fun f i => X d y (pc + 1) ls (.inr (.inl (f, i)) :: st) M Q
    | .iload_n k => am_vi (am_nth ls k none) fun x => X d y (pc + 1) ls (.inl x :: st) M Q
    | .iload k => am_vi (am_nth ls k none) fun x => X d y (pc + 1) ls (.inl x :: st) M Q
    | .lload_n k => am_vl (am_nth ls k none) fun x => X d y (pc + 1) ls (.inr (.inr x) :: st) M Q
    | .lload k => am_vl (am_nth ls k none) fun x => X d y (pc + 1) ls (.inr (.inr x) :: st) M Q
    | .istore_n k => am_i st fun x r => X d y (pc + 1) (am_set ls k (.inl x)) r M Q
    | .istore k => am_i st fun x r => X d y (pc + 1) (am_set ls k (.inl x)) r M Q
    | .astore_n k => am_r st fun f i r => X d y (pc + 1) (am_set ls k (.inr (.inl (f, i)))) r M Q
    | .astore k => am_r st fun f i r => X d y (pc + 1) (am_set ls k (.inr (.inl (f, i)))) r M Q
    | .lstore k => am_l st fun x r => X d y (pc + 1) (am_set2 ls k x) r M Q
    | .iconst _ => X d y (pc + 1) ls (.inl z :: st) M Q
    | .bipush _ => X d y (pc + 1) ls (.inl z :: st) M Q
    | .sipush _ => X d y (pc + 1) ls (.inl z :: st) M Q
    | .ldc _ => X d y (pc + 1) ls (.inl z :: st) M Q
    | .iadd => am_ii st fun u v r => X d y (pc + 1) ls (.inl (u + v) :: r) M Q
    | .isub => am_ii st fun u v r => X d y (pc + 1) ls (.inl (u - v) :: r) M Q
    | .imul => am_ii st fun u v r => X d y (pc + 1) ls (.inl (u * v) :: r) M Q
    | .iand => am_ii st fun u v r => X d y (pc + 1) ls (.inl (u &&& v) :: r) M Q
    | .ior => am_ii st fun u v r => X d y (pc + 1) ls (.inl (u ||| v) :: r) M Q
    | .ixor => am_ii st fun u v r => X d y (pc + 1) ls (.inl (u ^^^ v) :: r) M Q
    | .ishl => am_ii st fun u v r => X d y (pc + 1) ls (.inl (u <<< (v &&& 31)) :: r) M Q
    | .ishr => am_ii st fun u v r => X d y (pc + 1) ls (.inl (u >>> (v &&& 31)) :: r) M Q
    | .idiv => am_ii st fun u v r => ¬ v = 0 ∧ X d y (pc + 1) ls (.inl (u / v) :: r) M Q
    | .irem => am_ii st fun u v r => ¬ v = 0 ∧ X d y (pc + 1) ls (.inl (u - u / v * v) :: r) M Q
    | .ladd => am_ll st fun u v r => X d y (pc + 1) ls (.inr (.inr (u + v)) :: r) M Q
    | .lsub => am_ll st fun u v r => X d y (pc + 1) ls (.inr (.inr (u - v)) :: r) M Q
    | .lmul => am_ll st fun u v r => X d y (pc + 1) ls (.inr (.inr (u * v)) :: r) M Q
    | .lcmp => am_ll st fun u v r => X d y (pc + 1) ls (.inl (lg_cmp u v) :: r) M Q
    | .i2l => am_i st fun u r => X d y (pc + 1) ls (.inr (.inr u.toInt64) :: r) M Q
    | .l2i => am_l st fun u r => X d y (pc + 1) ls (.inl u.toInt32 :: r) M Q
    | .iinc k _ => am_vi (am_nth ls k none) fun x => X d y (pc + 1) (am_set ls k (.inl (x + z))) st M Q
    | .dup => am_r st fun f i r => X d y (pc + 1) ls (.inr (.inl (f, i)) :: .inr (.inl (f, i)) :: r) M Q
    | .dup2 => am_i st fun j r => am_r r fun f i r => X d y (pc + 1) ls (.inl j :: .inr (.inl (f, i)) :: .inl j :: .inr (.inl (f, i)) :: r) M Q
    | .goto _ => X d y a ls st M Q
    | .ifCond c _ => am_i st fun u r => (am_cmp c u 0 → X d y a ls r M Q) ∧ (¬ am_cmp c u 0 → X d y (pc + 1) ls r M Q)
    | .if_icmp c _ => am_ii st fun u v r => (am_cmp c u v → X d y a ls r M Q) ∧ (¬ am_cmp c u v → X d y (pc + 1) ls r M Q)
    | .tableswitch _ lo hi _ => am_i st fun u r => ((u.toInt < lo ∨ hi < u.toInt) → X d y a ls r M Q) ∧ am_sw u.toInt lo tg fun t => X d y t ls r M Q
    | .getfield _ => am_r st fun f i r => bif Nat.beq (am_kind f) 0 && Nat.beq (am_cls f) a then X d y (pc + 1) ls (am_fv M a f i b :: r) M Q else False
    | .putfield _ => match am_fty a b with
      | 0 => am_i st fun x r => am_r r fun f i r => bif Nat.beq (am_kind f) 0 && Nat.beq (am_cls f) a then X d y (pc + 1) ls r (am_si M f i b x) Q else False
      | 1 => am_i st fun x r => am_r r fun f i r => bif Nat.beq (am_kind f) 0 && Nat.beq (am_cls f) a then (x = 0 ∨ x = 1) ∧ X d y (pc + 1) ls r (am_si M f i b x) Q else False
      | 2 => am_r st fun g j r => am_r r fun f i r => bif Nat.beq f 8 && Nat.beq a 2 && Nat.beq g 9 && (Nat.beq b 0 || Nat.beq b 2) then X d y (pc + 1) ls r (am_sv M f b j) Q else False
      | 3 => am_l st fun x r => am_r r fun f i r => bif Nat.beq f 10 && Nat.beq a 3 then X d y (pc + 1) ls r (am_sl M x) Q else False
      | _ => False
    | .iaload => am_i st fun j r => am_r r fun f i r => bif Nat.beq (am_kind f) 1 then ∃ n : Nat, n < am_len M f ∧ j = nI n ∧ X d y (pc + 1) ls (.inl (am_iv M f i n) :: r) M Q else False
    | .baload => am_i st fun j r => am_r r fun f i r => bif Nat.beq (am_kind f) 2 then ∃ n : Nat, n < am_len M f ∧ j = nI n ∧ X d y (pc + 1) ls (.inl (M.1 f i n) :: r) M Q else False
    | .aaload => am_i st fun j r => am_r r fun f i r => bif Nat.beq (am_kind f) 3 then ∃ n : Nat, n < am_len M f ∧ j = nI n ∧ X d y (pc + 1) ls (.inr (.inl (am_rfA f, am_riA M f i n)) :: r) M Q else False
    | .iastore => am_i st fun x r => am_i r fun j r => am_r r fun f i r => bif Nat.beq (am_kind f) 1 && Nat.blt f 59 then ∃ n : Nat, n < am_len M f ∧ j = nI n ∧ X d y (pc + 1) ls r (am_si M f i n x) Q else False
    | .bastore => am_i st fun x r => am_i r fun j r => am_r r fun f i r => bif Nat.beq (am_kind f) 2 then ∃ n : Nat, n < am_len M f ∧ j = nI n ∧ (x = 0 ∨ x = 1) ∧ X d y (pc + 1) ls r (am_si M f i n x) Q else False
    | .aastore => am_r st fun g k r => am_i r fun j r => am_r r fun f i r => bif (Nat.beq f 4 && Nat.beq g 18) || (Nat.beq f 12 && Nat.beq g 22) then ∃ n : Nat, n < am_len M f ∧ j = nI n ∧ X d y (pc + 1) ls r (am_sv M f n k) Q else False
    | .arraylength => am_r st fun f i r => bif Nat.beq (am_kind f) 1 then X d y (pc + 1) ls (.inl (nI (am_len M f)) :: r) M Q else False
    | .getstatic _ => bif Nat.beq a 59 || Nat.beq a 60 then X d y (pc + 1) ls (.inr (.inl (a, 0)) :: st) M Q else False
    | .invokevirtual _ => am_call X Y d y pc ls M Q a (am_pop (b + 1) st []) false
    | .invokestatic _ => bif Nat.beq a 999 then am_i st fun n r => am_i r fun q r => am_r r fun g k r => am_i r fun p r => am_r r fun f i r => bif Nat.ble (am_cat r) 8 && Nat.beq (am_kind f) 1 && Nat.beq (am_kind g) 1 && Nat.blt f 59 && Nat.blt g 59 && Nat.beq (am_len0 f) (am_len0 g) then 1 ≤ d ∧ p = 0 ∧ q = 0 ∧ n = nI (am_len0 f) ∧ X d y (pc + 1) ls r (am_sr M g k (va_cpy (M.1 f i) (M.1 g k) 0 0 (am_len0 f))) Q else False
      else am_call X Y d y pc ls M Q a (am_pop b st []) true
    | .ireturn => am_i st fun x r => match r with
      | [] => bif Nat.beq a 1 then (x = 0 ∨ x = 1) ∧ Q (some (.inl x)) M else Q (some (.inl x)) M
      | _ => False
    | .lreturn => am_l st fun x r => match r with
      | [] => Q (some (.inr (.inr x))) M
      | _ => False
    | .areturn => am_r st fun f i r => match r with
      | [] => Q (some (.inr (.inl (f, i)))) M
      | _ => False
    | .return_ => match st with
      | [] => Q none M
      | _ => False
    | _ => False
/-- closed under one step: all that is proved of methods is proved of every X that is -/
def am_Cl (X : am_X) : Prop := ∀ d y pc ls st M Q, am_F X X d y pc ls st M Q (am_at y pc) → X d y pc ls st M Q
/-- up to k steps, or to an index among stops -/
def am_W (X : am_X) (stops : List Nat) : Nat → am_X
  | 0 => X
  | k + 1 => fun d y pc ls st M Q => bif stops.elem pc then X d y pc ls st M Q else am_F (am_W X stops k) X d y pc ls st M Q (am_at y pc)
end
section
/-! one step is monotone; up to k steps at once -/
theorem am_i_m {st : List am_V} {K K' : Int32 → List am_V → Prop} (h : ∀ x r, K x r → K' x r) : am_i st K → am_i st K' := by
  unfold am_i; split
  · exact h _ _
  · exact id
theorem am_r_m {st : List am_V} {K K' : Nat → Nat → List am_V → Prop} (h : ∀ f i r, K f i r → K' f i r) : am_r st K → am_r st K' := by
  unfold am_r; split
  · exact h _ _ _
  · exact id
theorem am_l_m {st : List am_V} {K K' : Int64 → List am_V → Prop} (h : ∀ x r, K x r → K' x r) : am_l st K → am_l st K' := by
  unfold am_l; split
  · exact h _ _
  · exact id
theorem am_ii_m {st : List am_V} {K K' : Int32 → Int32 → List am_V → Prop} (h : ∀ x y r, K x y r → K' x y r) : am_ii st K → am_ii st K' := am_i_m fun _ _ => am_i_m fun _ _ => h _ _ _
theorem am_ll_m {st : List am_V} {K K' : Int64 → Int64 → List am_V → Prop} (h : ∀ x y r, K x y r → K' x y r) : am_ll st K → am_ll st K' := am_l_m fun _ _ => am_l_m fun _ _ => h _ _ _
theorem am_vi_m {v : Option am_V} {K K' : Int32 → Prop} (h : ∀ x, K x → K' x) : am_vi v K → am_vi v K' := by
  unfold am_vi; split
  · exact h _
  · exact id
theorem am_vr_m {v : Option am_V} {K K' : Nat → Nat → Prop} (h : ∀ f i, K f i → K' f i) : am_vr v K → am_vr v K' := by
  unfold am_vr; split
  · exact h _ _
  · exact id
theorem am_vl_m {v : Option am_V} {K K' : Int64 → Prop} (h : ∀ x, K x → K' x) : am_vl v K → am_vl v K' := by
  unfold am_vl; split
  · exact h _
  · exact id
theorem am_b_m {c : Bool} {A A' : Prop} (h : A → A') : (bif c then A else False) → (bif c then A' else False) := by
  cases c
  · exact id
  · exact h
theorem am_sw_m {u : Int} {ts : List Nat} {K K' : Nat → Prop} (h : ∀ t, K t → K' t) : ∀ {lo : Int}, am_sw u lo ts K → am_sw u lo ts K' := by
  induction ts with
  | nil => exact fun h => h
  | cons t ts ih => exact fun q => ⟨fun c => h _ (q.1 c), ih q.2⟩
theorem am_call_m {X X' Y : am_X} (h : ∀ d y pc ls st M Q, X d y pc ls st M Q → X' d y pc ls st M Q) {d y pc : Nat} {ls : List (Option am_V)} {M : am_M} {Q : am_P} {callee : Nat} {p : Option (List am_V × List am_V)} {s : Bool} : am_call X Y d y pc ls M Q callee p s → am_call X' Y d y pc ls M Q callee p s := by
  unfold am_call; split
  · exact id
  · exact am_b_m fun ⟨a, Q', b, c⟩ => ⟨a, Q', b, fun r M' q => h _ _ _ _ _ _ _ (c r M' q)⟩
theorem am_F_m {X X' Y : am_X} (h : ∀ d y pc ls st M Q, X d y pc ls st M Q → X' d y pc ls st M Q) {d y pc : Nat} {ls : List (Option am_V)} {st : List am_V} {M : am_M} {Q : am_P} {en : Option am_E} :
    am_F X Y d y pc ls st M Q en → am_F X' Y d y pc ls st M Q en := by
  cases en with
  | none => exact id
  | some e =>
    obtain ⟨p, ins, a, b, z, tg⟩ := e
    cases ins with
    | aload_n k => intro q; simp only [am_F] at q ⊢; exact am_vr_m (fun _ _ => h _ _ _ _ _ _ _) q
    | aload k => intro q; simp only [am_F] at q ⊢; exact am_vr_m (fun _ _ => h _ _ _ _ _ _ _) q
    | iload_n k => exact am_vi_m fun _ => h _ _ _ _ _ _ _
    | iload k => exact am_vi_m fun _ => h _ _ _ _ _ _ _
    | lload_n k => exact am_vl_m fun _ => h _ _ _ _ _ _ _
    | lload k => exact am_vl_m fun _ => h _ _ _ _ _ _ _
    | istore_n k => exact am_i_m fun _ _ => h _ _ _ _ _ _ _
    | istore k => exact am_i_m fun _ _ => h _ _ _ _ _ _ _
    | astore_n k => intro q; simp only [am_F] at q ⊢; exact am_r_m (fun _ _ _ => h _ _ _ _ _ _ _) q
    | astore k => intro q; simp only [am_F] at q ⊢; exact am_r_m (fun _ _ _ => h _ _ _ _ _ _ _) q
    | lstore k => exact am_l_m fun _ _ => h _ _ _ _ _ _ _
    | iconst k => exact h _ _ _ _ _ _ _
    | bipush k => exact h _ _ _ _ _ _ _
    | sipush k => exact h _ _ _ _ _ _ _
    | ldc k => exact h _ _ _ _ _ _ _
    | iadd => exact am_ii_m fun _ _ _ => h _ _ _ _ _ _ _
    | isub => exact am_ii_m fun _ _ _ => h _ _ _ _ _ _ _
    | imul => exact am_ii_m fun _ _ _ => h _ _ _ _ _ _ _
    | iand => exact am_ii_m fun _ _ _ => h _ _ _ _ _ _ _
    | ior => exact am_ii_m fun _ _ _ => h _ _ _ _ _ _ _
    | ixor => exact am_ii_m fun _ _ _ => h _ _ _ _ _ _ _
    | ishl => exact am_ii_m fun _ _ _ => h _ _ _ _ _ _ _
    | ishr => exact am_ii_m fun _ _ _ => h _ _ _ _ _ _ _
    | idiv => exact am_ii_m fun _ _ _ q => ⟨q.1, h _ _ _ _ _ _ _ q.2⟩
    | irem => exact am_ii_m fun _ _ _ q => ⟨q.1, h _ _ _ _ _ _ _ q.2⟩
    | ladd => exact am_ll_m fun _ _ _ => h _ _ _ _ _ _ _
    | lsub => exact am_ll_m fun _ _ _ => h _ _ _ _ _ _ _
    | lmul => exact am_ll_m fun _ _ _ => h _ _ _ _ _ _ _
    | lcmp => exact am_ll_m fun _ _ _ => h _ _ _ _ _ _ _
    | i2l => exact am_i_m fun _ _ => h _ _ _ _ _ _ _
    | l2i => exact am_l_m fun _ _ => h _ _ _ _ _ _ _
    | iinc k n => exact am_vi_m fun _ => h _ _ _ _ _ _ _
    | dup => intro q; simp only [am_F] at q ⊢; exact am_r_m (fun _ _ _ => h _ _ _ _ _ _ _) q
    | dup2 => intro q; simp only [am_F] at q ⊢; exact am_i_m (fun _ _ => am_r_m fun _ _ _ => h _ _ _ _ _ _ _) q
    | goto k => exact h _ _ _ _ _ _ _
    | ifCond c k => exact am_i_m fun _ _ q => ⟨fun c => h _ _ _ _ _ _ _ (q.1 c), fun c => h _ _ _ _ _ _ _ (q.2 c)⟩
    | if_icmp c k => exact am_ii_m fun _ _ _ q => ⟨fun c => h _ _ _ _ _ _ _ (q.1 c), fun c => h _ _ _ _ _ _ _ (q.2 c)⟩
    | tableswitch _ lo hi _ => exact am_i_m fun _ _ q => ⟨fun c => h _ _ _ _ _ _ _ (q.1 c), am_sw_m (fun _ => h _ _ _ _ _ _ _) q.2⟩
    | getfield k => intro q; simp only [am_F] at q ⊢; exact am_r_m (fun _ _ _ => am_b_m (h _ _ _ _ _ _ _)) q
    | putfield k =>
      simp only [am_F]
      split
      · exact am_i_m fun _ _ => am_r_m fun _ _ _ => am_b_m (h _ _ _ _ _ _ _)
      · exact am_i_m fun _ _ => am_r_m fun _ _ _ => am_b_m fun q => ⟨q.1, h _ _ _ _ _ _ _ q.2⟩
      · exact am_r_m fun _ _ _ => am_r_m fun _ _ _ => am_b_m (h _ _ _ _ _ _ _)
      · exact am_l_m fun _ _ => am_r_m fun _ _ _ => am_b_m (h _ _ _ _ _ _ _)
      · exact id
    | iaload => intro q; simp only [am_F] at q ⊢; exact am_i_m (fun _ _ => am_r_m fun _ _ _ => am_b_m fun ⟨n, a, b, q⟩ => ⟨n, a, b, h _ _ _ _ _ _ _ q⟩) q
    | baload => intro q; simp only [am_F] at q ⊢; exact am_i_m (fun _ _ => am_r_m fun _ _ _ => am_b_m fun ⟨n, a, b, q⟩ => ⟨n, a, b, h _ _ _ _ _ _ _ q⟩) q
    | aaload => intro q; simp only [am_F] at q ⊢; exact am_i_m (fun _ _ => am_r_m fun _ _ _ => am_b_m fun ⟨n, a, b, q⟩ => ⟨n, a, b, h _ _ _ _ _ _ _ q⟩) q
    | iastore => intro q; simp only [am_F] at q ⊢; exact am_i_m (fun _ _ => am_i_m fun _ _ => am_r_m fun _ _ _ => am_b_m fun ⟨n, a, b, q⟩ => ⟨n, a, b, h _ _ _ _ _ _ _ q⟩) q
    | bastore => intro q; simp only [am_F] at q ⊢; exact am_i_m (fun _ _ => am_i_m fun _ _ => am_r_m fun _ _ _ => am_b_m fun ⟨n, a, b, c, q⟩ => ⟨n, a, b, c, h _ _ _ _ _ _ _ q⟩) q
    | aastore => intro q; simp only [am_F] at q ⊢; exact am_r_m (fun _ _ _ => am_i_m fun _ _ => am_r_m fun _ _ _ => am_b_m fun ⟨n, a, b, q⟩ => ⟨n, a, b, h _ _ _ _ _ _ _ q⟩) q
    | arraylength => intro q; simp only [am_F] at q ⊢; exact am_r_m (fun _ _ _ => am_b_m (h _ _ _ _ _ _ _)) q
    | getstatic k => exact am_b_m (h _ _ _ _ _ _ _)
    | invokevirtual k => exact am_call_m h
    | invokestatic k =>
      simp only [am_F]
      cases Nat.beq a 999
      · exact am_call_m h
      · exact am_i_m fun _ _ => am_i_m fun _ _ => am_r_m fun _ _ _ => am_i_m fun _ _ => am_r_m fun _ _ _ => am_b_m fun ⟨a, b, c, e, q⟩ => ⟨a, b, c, e, h _ _ _ _ _ _ _ q⟩
    | _ => exact id
theorem am_W_ok {X : am_X} (hX : am_Cl X) (stops : List Nat) (k : Nat) : ∀ d y pc ls st M Q, am_W X stops k d y pc ls st M Q → X d y pc ls st M Q := by
  induction k with
  | zero => exact fun d y pc ls st M Q h => h
  | succ k ih =>
    intro d y pc ls st M Q h
    unfold am_W at h
    cases hb : stops.elem pc with
    | true => rw [hb] at h; exact h
    | false => rw [hb] at h; exact hX d y pc ls st M Q (am_F_m ih h)
/-- from here up to k steps, each branch to its next stop -/
theorem am_go {X : am_X} (hX : am_Cl X) (stops : List Nat) (k : Nat) {d y pc : Nat} {ls : List (Option am_V)} {st : List am_V} {M : am_M} {Q : am_P} (h : am_F (am_W X stops k) X d y pc ls st M Q (am_at y pc)) : X d y pc ls st M Q :=
  hX d y pc ls st M Q (am_F_m (am_W_ok hX stops k) h)
end
section
/-! steps of calls; rows of the library and of small tests -/
theorem am_cc {d : Nat} {A : am_P → Prop} {B : Option am_V → am_M → Prop} (hd : 1 ≤ d) (h : A B) : 1 ≤ d ∧ ∃ Q' : am_P, A Q' ∧ ∀ (r : Option am_V) (M' : am_M), Q' r M' → B r M' := ⟨hd, B, h, fun _ _ q => q⟩
theorem am_n1 : am_cmp .ne 1 0 := (by decide : ¬ (1 : Int32) = 0)
theorem am_bne1 {A B : Prop} (a : A) : (am_cmp .ne 1 0 → A) ∧ (¬ am_cmp .ne 1 0 → B) := ⟨fun _ => a, fun c => absurd am_n1 c⟩
theorem am_beq1 {A B : Prop} (b : B) : (am_cmp .eq 1 0 → A) ∧ (¬ am_cmp .eq 1 0 → B) := ⟨fun c => absurd c am_n1, fun _ => b⟩
theorem am_bne0 {A B : Prop} (b : B) : (am_cmp .ne 0 0 → A) ∧ (¬ am_cmp .ne 0 0 → B) := ⟨fun c => absurd rfl c, fun _ => b⟩
theorem am_beq0 {A B : Prop} (a : A) : (am_cmp .eq 0 0 → A) ∧ (¬ am_cmp .eq 0 0 → B) := ⟨fun _ => a, fun c => absurd rfl c⟩
theorem lb_max {X : am_X} (hX : am_Cl X) (d : Nat) (M : am_M) (x y : Int32) (Q : am_P) (h : Q (some (.inl (if x < y then y else x))) M) : X d 135 0 [some (.inl x), some (.inl y)] [] M Q := by
  refine am_go hX [] 10 ?_
  refine ⟨fun (c : x < y) => ?_, fun (c : ¬ x < y) => ?_⟩
  · rw [if_pos c] at h; exact h
  · rw [if_neg c] at h; exact h
theorem lb_min {X : am_X} (hX : am_Cl X) (d : Nat) (M : am_M) (x y : Int32) (Q : am_P) (h : Q (some (.inl (if y < x then y else x))) M) : X d 136 0 [some (.inl x), some (.inl y)] [] M Q := by
  refine am_go hX [] 10 ?_
  refine ⟨fun (c : y < x) => ?_, fun (c : ¬ y < x) => ?_⟩
  · rw [if_pos c] at h; exact h
  · rw [if_neg c] at h; exact h
/-- x divided by y, down -/
def lb_fd (x y : Int32) : Int32 := if 0 ≤ x ^^^ y then x / y else if x / y * y = x then x / y else x / y - 1
theorem lb_floorDiv {X : am_X} (hX : am_Cl X) (d : Nat) (M : am_M) (x y : Int32) (hy : ¬ y = 0) (Q : am_P) (h : Q (some (.inl (lb_fd x y))) M) : X d 134 0 [some (.inl x), some (.inl y), none] [] M Q := by
  refine am_go hX [] 20 ?_
  refine ⟨hy, fun (c : 0 ≤ x ^^^ y) => ?_, fun (c : ¬ 0 ≤ x ^^^ y) => ⟨fun (c2 : x / y * y = x) => ?_, fun (c2 : ¬ x / y * y = x) => ?_⟩⟩
  · rw [lb_fd, if_pos c] at h; exact h
  · rw [lb_fd, if_neg c, if_pos c2] at h; exact h
  · rw [lb_fd, if_neg c, if_neg c2] at h; exact h
theorem cw_within {X : am_X} (hX : am_Cl X) (d : Nat) (M : am_M) (v a b : Int32) (Q : am_P) (h1 : a ≤ v → v ≤ b → Q (some (.inl 1)) M) (h0 : ¬ (a ≤ v ∧ v ≤ b) → Q (some (.inl 0)) M) : X d 25 0 [some (.inl v), some (.inl a), some (.inl b)] [] M Q := by
  refine am_go hX [] 20 ?_
  refine ⟨fun (c : v < a) => ⟨Or.inl rfl, h0 fun q => Int32.not_le.mpr c q.1⟩, fun (c : ¬ v < a) => ⟨fun (c2 : b < v) => ⟨Or.inl rfl, h0 fun q => Int32.not_le.mpr c2 q.2⟩, fun (c2 : ¬ b < v) => ⟨Or.inr rfl, h1 (Int32.not_lt.mp c) (Int32.not_lt.mp c2)⟩⟩⟩
theorem cm_in {X : am_X} (hX : am_Cl X) (d : Nat) (M : am_M) (v a b : Int32) (Q : am_P) (h1 : a ≤ v → v ≤ b → Q (some (.inl 1)) M) (h0 : ¬ (a ≤ v ∧ v ≤ b) → Q (some (.inl 0)) M) : X d 82 0 [some (.inr (.inl (28, 0))), some (.inl v), some (.inl a), some (.inl b)] [] M Q := by
  refine am_go hX [] 20 ?_
  refine ⟨fun (c : v < a) => ⟨Or.inl rfl, h0 fun q => Int32.not_le.mpr c q.1⟩, fun (c : ¬ v < a) => ⟨fun (c2 : b < v) => ⟨Or.inl rfl, h0 fun q => Int32.not_le.mpr c2 q.2⟩, fun (c2 : ¬ b < v) => ⟨Or.inr rfl, h1 (Int32.not_lt.mp c) (Int32.not_lt.mp c2)⟩⟩⟩
theorem cw_isWatcher {X : am_X} (hX : am_Cl X) (d : Nat) (M : am_M) (w : Int32) (Q : am_P) (h1 : 0 ≤ w → w < M.1 1 0 1 → Q (some (.inl 1)) M) (h0 : ¬ (0 ≤ w ∧ w < M.1 1 0 1) → Q (some (.inl 0)) M) : X d 32 0 [some (.inr (.inl (1, 0))), some (.inl w)] [] M Q := by
  refine am_go hX [] 20 ?_
  refine ⟨fun (c : w < 0) => ⟨Or.inl rfl, h0 fun q => Int32.not_le.mpr c q.1⟩, fun (c : ¬ w < 0) => ⟨fun (c2 : M.1 1 0 1 ≤ w) => ⟨Or.inl rfl, h0 fun q => Int32.not_lt.mpr c2 q.2⟩, fun (c2 : ¬ M.1 1 0 1 ≤ w) => ⟨Or.inr rfl, h1 (Int32.not_lt.mp c) (Int32.not_le.mp c2)⟩⟩⟩
theorem cw_isScan {X : am_X} (hX : am_Cl X) (d : Nat) (M : am_M) (w : Int32) (Q : am_P) (h1 : 0 ≤ w → w < M.1 1 0 2 → Q (some (.inl 1)) M) (h0 : ¬ (0 ≤ w ∧ w < M.1 1 0 2) → Q (some (.inl 0)) M) : X d 33 0 [some (.inr (.inl (1, 0))), some (.inl w)] [] M Q := by
  refine am_go hX [] 20 ?_
  refine ⟨fun (c : w < 0) => ⟨Or.inl rfl, h0 fun q => Int32.not_le.mpr c q.1⟩, fun (c : ¬ w < 0) => ⟨fun (c2 : M.1 1 0 2 ≤ w) => ⟨Or.inl rfl, h0 fun q => Int32.not_lt.mpr c2 q.2⟩, fun (c2 : ¬ M.1 1 0 2 ≤ w) => ⟨Or.inr rfl, h1 (Int32.not_lt.mp c) (Int32.not_le.mp c2)⟩⟩⟩
theorem cm_isWatcher {X : am_X} (hX : am_Cl X) (d : Nat) (M : am_M) (hd : 1 ≤ d) (w : Int32) (Q : am_P) (h1 : 0 ≤ w → w ≤ M.1 28 0 0 - 1 → Q (some (.inl 1)) M) (h0 : ¬ (0 ≤ w ∧ w ≤ M.1 28 0 0 - 1) → Q (some (.inl 0)) M) : X d 83 0 [some (.inr (.inl (28, 0))), some (.inl w)] [] M Q := by
  refine am_go hX [] 20 ?_
  refine am_cc hd (cm_in hX _ _ _ _ _ _ (fun a b => ⟨Or.inr rfl, h1 a b⟩) (fun a => ⟨Or.inl rfl, h0 a⟩))
theorem cm_isScan {X : am_X} (hX : am_Cl X) (d : Nat) (M : am_M) (hd : 1 ≤ d) (w : Int32) (Q : am_P) (h1 : 0 ≤ w → w ≤ M.1 28 0 1 - 1 → Q (some (.inl 1)) M) (h0 : ¬ (0 ≤ w ∧ w ≤ M.1 28 0 1 - 1) → Q (some (.inl 0)) M) : X d 84 0 [some (.inr (.inl (28, 0))), some (.inl w)] [] M Q := by
  refine am_go hX [] 20 ?_
  refine am_cc hd (cm_in hX _ _ _ _ _ _ (fun a b => ⟨Or.inr rfl, h1 a b⟩) (fun a => ⟨Or.inl rfl, h0 a⟩))
theorem cw_watcher {X : am_X} (hX : am_Cl X) (d : Nat) (M : am_M) (Q : am_P) (h1 : M.1 1 0 1 < 3 → Q (some (.inl (M.1 1 0 1 + 1 - 1))) (am_si M 1 0 1 (M.1 1 0 1 + 1))) (h0 : ¬ M.1 1 0 1 < 3 → Q (some (.inl (-4))) M) : X d 0 0 [some (.inr (.inl (0, 0)))] [] M Q := by
  refine am_go hX [] 40 ?_
  refine ⟨fun (c : M.1 1 0 1 < 3) => ?_, fun (c : ¬ M.1 1 0 1 < 3) => h0 c⟩
  exact h1 c
theorem cw_shift {X : am_X} (hX : am_Cl X) (d : Nat) (M : am_M) (hd : 1 ≤ d) (w a b : Int32) (Q : am_P) (h0 : ¬ (0 ≤ w ∧ w < M.1 1 0 1) → Q (some (.inl (-1))) M) (h1 : 0 ≤ w → w < M.1 1 0 1 → ¬ ((-50 ≤ a ∧ a ≤ 50) ∧ (-50 ≤ b ∧ b ≤ 50)) → Q (some (.inl (-2))) M)
    (h2 : 0 ≤ w → w < M.1 1 0 1 → (-50 ≤ a ∧ a ≤ 50) → (-50 ≤ b ∧ b ≤ 50) → ∃ n, n < 3 ∧ w = nI n ∧ Q (some (.inl 0)) (am_si (am_si (am_si M 2 0 n a) 3 0 n b) 1 0 0 1)) : X d 1 0 [some (.inr (.inl (0, 0))), some (.inl w), some (.inl a), some (.inl b)] [] M Q := by
  refine am_go hX [] 60 ?_
  refine am_cc hd (cw_isWatcher hX _ _ _ _ (fun w1 w2 => ?_) (fun c => am_bne0 (h0 c)))
  refine am_bne1 (am_cc hd (cw_within hX _ _ _ _ _ _ (fun a1 a2 => ?_) (fun c => am_beq0 (h1 w1 w2 fun q => c q.1))))
  refine am_beq1 (am_cc hd (cw_within hX _ _ _ _ _ _ (fun b1 b2 => ?_) (fun c => am_bne0 (h1 w1 w2 fun q => c q.2))))
  refine am_bne1 ?_
  obtain ⟨n, hn, rfl, h⟩ := h2 w1 w2 ⟨a1, a2⟩ ⟨b1, b2⟩
  exact ⟨n, hn, rfl, n, hn, rfl, Or.inr rfl, h⟩
end
section
/-! the class's told part: its methods over the memory -/
theorem cw_waiting {X : am_X} (hX : am_Cl X) (d : Nat) (M : am_M) (n : Nat) (hn : n < 13) (hs : M.1 1 0 2 = nI n) (Q : am_P) (h : Q (some (.inr (.inl (18, M.2.1 4 n)))) M) : X d 35 0 [some (.inr (.inl (1, 0)))] [] M Q := by
  refine am_go hX [] 20 ?_
  exact ⟨n, hn, hs, h⟩
theorem cw_add {X : am_X} (hX : am_Cl X) (d : Nat) (M : am_M) (i n : Nat) (hn : n < 4) (hs : M.1 18 i 2 = nI n) (x y k : Int32) (Q : am_P) (h : Q none (am_si (am_si (am_si (am_si M 19 i n x) 20 i n y) 21 i n k) 18 i 2 (M.1 18 i 2 + 1))) : X d 62 0 [some (.inr (.inl (18, i))), some (.inl (x)), some (.inl (y)), some (.inl (k))] [] M Q := by
  refine am_go hX [] 40 ?_
  refine ⟨fun (c : 4 ≤ M.1 18 i 2) => ?_, fun _ => ?_⟩
  · rw [hs] at c; exact absurd c (nI_ge hn (by decide))
  · exact ⟨n, hn, hs, n, hn, hs, n, hn, hs, h⟩
theorem cw_dot {X : am_X} (hX : am_Cl X) (d : Nat) (M : am_M) (hd : 1 ≤ d) (s n : Nat) (hs : s < 13) (hn : n ≤ 4) (h2 : M.1 1 0 2 = nI s) (hc : M.1 18 (M.2.1 4 s) 2 = nI n) (x y k : Int32) (Q : am_P)
    (h0 : ¬ ((-1000 ≤ x ∧ x ≤ 1000) ∧ (-1000 ≤ y ∧ y ≤ 1000) ∧ (0 ≤ k ∧ k ≤ 9)) → Q (some (.inl (-2))) M)
    (h : (-1000 ≤ x ∧ x ≤ 1000) → (-1000 ≤ y ∧ y ≤ 1000) → (0 ≤ k ∧ k ≤ 9) → n < 4 → Q (some (.inl (nI (n + 1)))) (am_si (am_si (am_si (am_si M 19 (M.2.1 4 s) n x) 20 (M.2.1 4 s) n y) 21 (M.2.1 4 s) n k) 18 (M.2.1 4 s) 2 (nI (n + 1))))
    (h1' : n = 4 → ((-1000 ≤ x ∧ x ≤ 1000) ∧ (-1000 ≤ y ∧ y ≤ 1000) ∧ (0 ≤ k ∧ k ≤ 9)) → Q (some (.inl (-4))) M) : X d 2 0 [some (.inr (.inl (0, 0))), some (.inl (x)), some (.inl (y)), some (.inl (k)), none] [] M Q := by
  refine am_go hX [] 60 ?_
  refine am_cc hd (cw_within hX _ _ _ _ _ _ (fun a1 a2 => ?_) (fun c => am_beq0 (h0 fun q => c q.1)))
  refine am_beq1 (am_cc hd (cw_within hX _ _ _ _ _ _ (fun b1 b2 => ?_) (fun c => am_beq0 (h0 fun q => c q.2.1))))
  refine am_beq1 (am_cc hd (cw_within hX _ _ _ _ _ _ (fun c1 c2 => ?_) (fun c => am_bne0 (h0 fun q => c q.2.2))))
  refine am_bne1 (am_cc hd (cw_waiting hX _ _ s hs h2 _ ?_))
  refine ⟨fun (c : M.1 18 (M.2.1 4 s) 2 < 4) => ?_, fun (c : ¬ M.1 18 (M.2.1 4 s) 2 < 4) => ?_⟩
  · have hn4 : n < 4 := by
      rcases Nat.lt_or_ge n 4 with q | q
      · exact q
      · rw [hc] at c; exact absurd c (nI_nlt (a := n) (b := 4) q (by omega))
    refine am_cc hd (cw_add hX _ _ _ n hn4 hc _ _ _ _ ?_)
    have e : M.1 18 (M.2.1 4 s) 2 + 1 = nI (n + 1) := by rw [hc, nI_1]
    rw [e]
    have := h ⟨a1, a2⟩ ⟨b1, b2⟩ ⟨c1, c2⟩ hn4
    show Q (some (.inl ((am_si _ 18 (M.2.1 4 s) 2 (nI (n + 1))).1 18 (M.2.1 4 s) 2))) _
    rw [show (am_si (am_si (am_si (am_si M 19 (M.2.1 4 s) n x) 20 (M.2.1 4 s) n y) 21 (M.2.1 4 s) n k) 18 (M.2.1 4 s) 2 (nI (n + 1))).1 18 (M.2.1 4 s) 2 = nI (n + 1) from by simp [am_si]]
    exact this
  · have hn4 : n = 4 := by
      rcases Nat.lt_or_ge n 4 with q | q
      · rw [hc] at c; exact absurd (nI_lt q (by decide)) c
      · omega
    exact h1' hn4 ⟨⟨a1, a2⟩, ⟨b1, b2⟩, ⟨c1, c2⟩⟩
/-- a scan is closed: the memory behind it -/
def cw_closeM (M : am_M) (s : Nat) (w m : Int32) : am_M := am_si (am_si (am_si (am_si M 18 (M.2.1 4 s) 0 w) 18 (M.2.1 4 s) 1 m) 1 0 2 (nI (s + 1))) 18 (M.2.1 4 (s + 1)) 2 0
theorem cw_close {X : am_X} (hX : am_Cl X) (d : Nat) (M : am_M) (s : Nat) (hs : s < 12) (h2 : M.1 1 0 2 = nI s) (w m : Int32) (Q : am_P) (h : Q none (cw_closeM M s w m)) : X d 36 0 [some (.inr (.inl (1, 0))), some (.inl (w)), some (.inl (m))] [] M Q := by
  refine am_go hX [] 40 ?_
  refine ⟨fun (c : 12 ≤ M.1 1 0 2) => ?_, fun _ => ?_⟩
  · rw [h2] at c; exact absurd c (nI_ge hs (by decide))
  · refine ⟨s, by show s < 13; omega, h2, s, by show s < 13; omega, h2, s + 1, by show s + 1 < 13; omega, ?_, ?_⟩
    · show (am_si _ 1 0 2 (M.1 1 0 2 + 1)).1 1 0 2 = nI (s + 1)
      simp [am_si, h2, nI_1]
    · unfold cw_closeM at h
      rw [← nI_1, ← h2] at h
      exact h
theorem cw_scan {X : am_X} (hX : am_Cl X) (d : Nat) (M : am_M) (hd : 1 ≤ d) (s : Nat) (hs : s ≤ 12) (h2 : M.1 1 0 2 = nI s) (w m : Int32) (Q : am_P)
    (h0 : ¬ (0 ≤ w ∧ w < M.1 1 0 1) → Q (some (.inl (-1))) M) (h1 : 0 ≤ w → w < M.1 1 0 1 → ¬ (0 ≤ m ∧ m ≤ 999) → Q (some (.inl (-2))) M) (h3 : 0 ≤ w → w < M.1 1 0 1 → (0 ≤ m ∧ m ≤ 999) → s = 12 → Q (some (.inl (-4))) M)
    (h : 0 ≤ w → w < M.1 1 0 1 → (0 ≤ m ∧ m ≤ 999) → s < 12 → Q (some (.inl (nI s))) (am_si (cw_closeM M s w m) 1 0 0 1)) : X d 3 0 [some (.inr (.inl (0, 0))), some (.inl (w)), some (.inl (m))] [] M Q := by
  refine am_go hX [] 60 ?_
  refine am_cc hd (cw_isWatcher hX _ _ _ _ (fun w1 w2 => ?_) (fun c => am_bne0 (h0 c)))
  refine am_bne1 (am_cc hd (cw_within hX _ _ _ _ _ _ (fun a1 a2 => ?_) (fun c => am_bne0 (h1 w1 w2 c))))
  refine am_bne1 ⟨fun (c : M.1 1 0 2 < 12) => ?_, fun (c : ¬ M.1 1 0 2 < 12) => ?_⟩
  · have hs12 : s < 12 := by
      rcases Nat.lt_or_ge s 12 with q | q
      · exact q
      · rw [h2] at c; exact absurd c (nI_nlt (a := s) (b := 12) q (by omega))
    refine am_cc hd (cw_close hX _ _ s hs12 h2 _ _ _ ?_)
    refine ⟨Or.inr rfl, ?_⟩
    have := h w1 w2 ⟨a1, a2⟩ hs12
    show Q (some (.inl ((am_si (cw_closeM M s w m) 1 0 0 1).1 1 0 2 - 1))) _
    rw [show (am_si (cw_closeM M s w m) 1 0 0 1).1 1 0 2 = nI (s + 1) from by simp [am_si, cw_closeM], nI_pred]
    exact this
  · have hs12 : s = 12 := by
      rcases Nat.lt_or_ge s 12 with q | q
      · rw [h2] at c; exact absurd (nI_lt q (by decide)) c
      · omega
    exact h3 w1 w2 ⟨a1, a2⟩ hs12
/-- scans behind j move one place ahead, from k on up to n -/
def cw_rot (V : Nat → Nat → Nat) (k n : Nat) : Nat → Nat → Nat := fun f j => if f = 4 ∧ k ≤ j ∧ j < n then V 4 (j + 1) else V f j
theorem cw_remove {X : am_X} (hX : am_Cl X) (d : Nat) (M : am_M) (hd : 1 ≤ d) (s k : Nat) (hs : s ≤ 12) (hk : k < s) (h2 : M.1 1 0 2 = nI s) (Q : am_P) (h : Q none (am_si (am_sv (M.1, cw_rot M.2.1 k s, M.2.2) 4 s (M.2.1 4 k)) 1 0 2 (nI s - 1))) : X d 37 0 [some (.inr (.inl (1, 0))), some (.inl (nI k)), none, none] [] M Q := by
  refine am_go hX [12] 40 ?_
  refine am_cc hd (cw_isScan hX _ _ _ _ (fun _ _ => ?_) (fun c => absurd ⟨nI_pos' (by omega), by rw [h2]; exact nI_lt hk (by omega)⟩ c))
  refine am_bne1 ⟨k, by show k < 13; omega, rfl, ?_⟩
  show X d 37 12 [some (.inr (.inl (1, 0))), some (.inl (nI k)), some (.inr (.inl (18, M.2.1 4 k))), some (.inl (nI k))] [] M Q
  have loop : ∀ t j : Nat, j + t = s → k ≤ j → X d 37 12 [some (.inr (.inl (1, 0))), some (.inl (nI k)), some (.inr (.inl (18, M.2.1 4 k))), some (.inl (nI j))] [] (M.1, cw_rot M.2.1 k j, M.2.2) Q := by
    intro t
    induction t with
    | zero =>
      intro j hj hkj
      have hj : j = s := by omega
      subst hj
      refine am_go hX [12] 40 ?_
      refine ⟨fun _ => ?_, fun (c : ¬ M.1 1 0 2 ≤ nI j) => ?_⟩
      · refine ⟨j, by show j < 13; omega, h2, ?_⟩
        rw [← h2] at h
        exact h
      · rw [h2] at c; exact absurd (nI_le (Nat.le_refl j) (by omega)) c
    | succ t ih =>
      intro j hj hkj
      refine am_go hX [12] 40 ?_
      refine ⟨fun (c : M.1 1 0 2 ≤ nI j) => ?_, fun _ => ?_⟩
      · rw [h2] at c; exact absurd c (nI_ge (by omega) (by omega))
      · refine ⟨j + 1, by show j + 1 < 13; omega, nI_1 j, j, by show j < 13; omega, rfl, ?_⟩
        have := ih (j + 1) (by omega) (by omega)
        rw [← nI_1] at this
        have e : (M.1, cw_rot M.2.1 k (j + 1), M.2.2) = am_sv (M.1, cw_rot M.2.1 k j, M.2.2) 4 j (cw_rot M.2.1 k j 4 (j + 1)) := by
          unfold am_sv cw_rot
          refine congrArg (fun z => (M.1, z, M.2.2)) ?_
          funext f i
          dsimp only
          by_cases hf : f = 4
          · subst hf
            repeat' split
            all_goals first | rfl | (exfalso; omega) | (have e : i = j := by omega
                                                        subst e; rfl)
          · simp [hf]
        rw [e] at this
        exact this
  have e0 : M = (M.1, cw_rot M.2.1 k k, M.2.2) := by
    refine congrArg (fun z => (M.1, z, M.2.2)) ?_
    funext f i
    unfold cw_rot
    rw [if_neg (by omega)]
  have := loop (s - k) k (by omega) (Nat.le_refl k)
  rw [← e0] at this
  exact this

theorem cw_drop {X : am_X} (hX : am_Cl X) (d : Nat) (M : am_M) (hd : 2 ≤ d) (s : Nat) (hs : s ≤ 12) (h2 : M.1 1 0 2 = nI s) (w : Int32) (Q : am_P) (h0 : ¬ (0 ≤ w ∧ w < M.1 1 0 2) → Q (some (.inl (-1))) M)
    (h : ∀ k, k < s → w = nI k → Q (some (.inl (nI (s - 1)))) (am_si (am_si (am_sv (M.1, cw_rot M.2.1 k s, M.2.2) 4 s (M.2.1 4 k)) 1 0 2 (nI (s - 1))) 1 0 0 1)) : X d 4 0 [some (.inr (.inl (0, 0))), some (.inl (w))] [] M Q := by
  refine am_go hX [] 60 ?_
  refine am_cc (by omega) (cw_isScan hX _ _ _ _ (fun w1 w2 => ?_) (fun c => am_bne0 (h0 c)))
  obtain ⟨k, hk, rfl⟩ : ∃ k, k < s ∧ w = nI k := by
    obtain ⟨k, hk, rfl⟩ := nI_of (Int32.not_lt.mpr w1)
    rw [h2] at w2
    exact ⟨k, (nI_ltI hk (by omega)).mp w2, rfl⟩
  refine am_bne1 (am_cc (by omega) (cw_remove hX _ _ (by omega) s k hs hk h2 _ ?_))
  refine ⟨Or.inr rfl, ?_⟩
  have := h k hk rfl
  have e : nI s - 1 = nI (s - 1) := by
    obtain ⟨t, rfl⟩ : ∃ t, s = t + 1 := ⟨s - 1, by omega⟩
    exact nI_pred t
  rw [e]
  exact this
theorem cw_kind {X : am_X} (hX : am_Cl X) (d : Nat) (M : am_M) (hd : 1 ≤ d) (m k : Int32) (Q : am_P) (h0 : ¬ (1 ≤ m ∧ m ≤ 9) → Q (some (.inl (-1))) M) (h1 : (1 ≤ m ∧ m ≤ 9) → ¬ (0 ≤ k ∧ k ≤ 2) → Q (some (.inl (-2))) M)
    (h : (1 ≤ m ∧ m ≤ 9) → (0 ≤ k ∧ k ≤ 2) → ∃ n, n < 10 ∧ m = nI n ∧ Q (some (.inl (M.1 7 0 n))) (am_si (am_si M 7 0 n k) 1 0 0 1)) : X d 5 0 [some (.inr (.inl (0, 0))), some (.inl (m)), some (.inl (k)), none] [] M Q := by
  refine am_go hX [] 60 ?_
  refine am_cc hd (cw_within hX _ _ _ _ _ _ (fun a1 a2 => ?_) (fun c => am_bne0 (h0 c)))
  refine am_bne1 (am_cc hd (cw_within hX _ _ _ _ _ _ (fun b1 b2 => ?_) (fun c => am_bne0 (h1 ⟨a1, a2⟩ c))))
  obtain ⟨n, hn, e, h'⟩ := h ⟨a1, a2⟩ ⟨b1, b2⟩
  exact am_bne1 ⟨n, hn, e, n, hn, e, Or.inr rfl, h'⟩
theorem cw_rule {X : am_X} (hX : am_Cl X) (d : Nat) (M : am_M) (hd : 1 ≤ d) (m k : Int32) (Q : am_P) (h0 : ¬ (0 ≤ m ∧ m ≤ 5) → Q (some (.inl (-1))) M) (h1 : ∀ n, n < 6 → m = nI n → ¬ (am_stT 59 n ≤ k ∧ k ≤ am_stT 60 n) → Q (some (.inl (-2))) M)
    (h : ∀ n, n < 6 → m = nI n → (am_stT 59 n ≤ k ∧ k ≤ am_stT 60 n) → Q (some (.inl (M.1 6 0 n))) (am_si (am_si M 6 0 n k) 1 0 0 1)) : X d 6 0 [some (.inr (.inl (0, 0))), some (.inl (m)), some (.inl (k)), none] [] M Q := by
  refine am_go hX [] 60 ?_
  refine am_cc hd (cw_within hX _ _ _ _ _ _ (fun a1 a2 => ?_) (fun c => am_bne0 (h0 c)))
  obtain ⟨n, hn, rfl⟩ : ∃ n, n < 6 ∧ m = nI n := by
    obtain ⟨n, hn, rfl⟩ := nI_of2 (M := 5) (n := 5) rfl (Int32.not_lt.mpr a1) a2
    exact ⟨n, by omega, rfl⟩
  refine am_bne1 ⟨n, hn, rfl, n, hn, rfl, am_cc hd (cw_within hX _ _ _ _ _ _ (fun b1 b2 => ?_) (fun c => am_bne0 (h1 n hn rfl c)))⟩
  exact am_bne1 ⟨n, hn, rfl, n, hn, rfl, Or.inr rfl, h n hn rfl ⟨b1, b2⟩⟩
end
section
/-! the reference's told part: its methods over the memory -/
theorem cm_watcher {X : am_X} (hX : am_Cl X) (d : Nat) (M : am_M) (n : Nat) (hn : n ≤ 3) (h2 : M.1 28 0 0 = nI n) (Q : am_P) (h0 : n = 3 → Q (some (.inl (-4))) M) (h : n < 3 → Q (some (.inl (nI n))) (am_si (am_si (am_si M 29 0 n 0) 30 0 n 0) 28 0 0 (nI (n + 1)))) : X d 86 0 [some (.inr (.inl (28, 0)))] [] M Q := by
  refine am_go hX [] 60 ?_
  refine ⟨fun (c : ¬ M.1 28 0 0 = 3) => ?_, fun (c : ¬ ¬ M.1 28 0 0 = 3) => ?_⟩
  · have hn3 : n < 3 := by
      rcases Nat.lt_or_ge n 3 with q | q
      · exact q
      · have : n = 3 := by omega
        subst this; exact absurd h2 c
    have := h hn3
    refine ⟨n, hn3, h2, n, hn3, h2, ?_⟩
    rw [← nI_1, ← h2] at this
    show Q (some (.inl ((am_si (am_si (am_si M 29 0 n 0) 30 0 n 0) 28 0 0 (M.1 28 0 0 + 1)).1 28 0 0 - 1))) _
    rw [show (am_si (am_si (am_si M 29 0 n 0) 30 0 n 0) 28 0 0 (M.1 28 0 0 + 1)).1 28 0 0 - 1 = M.1 28 0 0 from by simp [am_si]]
    exact this
  · refine h0 ?_
    have c := Classical.not_not.mp c
    rw [h2] at c
    exact (nI_eq (a := n) (b := 3) (by omega) (by decide)).mp c
theorem cm_shift {X : am_X} (hX : am_Cl X) (d : Nat) (M : am_M) (hd : 2 ≤ d) (w a b : Int32) (Q : am_P) (h0 : ¬ (0 ≤ w ∧ w ≤ M.1 28 0 0 - 1) → Q (some (.inl (-1))) M) (h1 : 0 ≤ w → w ≤ M.1 28 0 0 - 1 → ¬ ((-50 ≤ a ∧ a ≤ 50) ∧ (-50 ≤ b ∧ b ≤ 50)) → Q (some (.inl (-2))) M)
    (h2 : 0 ≤ w → w ≤ M.1 28 0 0 - 1 → (-50 ≤ a ∧ a ≤ 50) → (-50 ≤ b ∧ b ≤ 50) → ∃ n, n < 3 ∧ w = nI n ∧ Q (some (.inl (0))) (am_si (am_si (am_si M 29 0 n a) 30 0 n b) 28 0 16 1)) : X d 87 0 [some (.inr (.inl (28, 0))), some (.inl (w)), some (.inl (a)), some (.inl (b))] [] M Q := by
  refine am_go hX [] 60 ?_
  refine am_cc (by omega) (cm_isWatcher hX _ _ (by omega) _ _ (fun w1 w2 => ?_) (fun c => am_bne0 (h0 c)))
  refine am_bne1 (am_cc (by omega) (cm_in hX _ _ _ _ _ _ (fun a1 a2 => ?_) (fun c => am_beq0 (h1 w1 w2 fun q => c q.1))))
  refine am_beq1 (am_cc (by omega) (cm_in hX _ _ _ _ _ _ (fun b1 b2 => ?_) (fun c => am_bne0 (h1 w1 w2 fun q => c q.2))))
  refine am_bne1 ?_
  obtain ⟨n, hn, rfl, h⟩ := h2 w1 w2 ⟨a1, a2⟩ ⟨b1, b2⟩
  exact ⟨n, hn, rfl, n, hn, rfl, Or.inr rfl, h⟩
theorem cm_dot {X : am_X} (hX : am_Cl X) (d : Nat) (M : am_M) (hd : 1 ≤ d) (n : Nat) (hn : n ≤ 4) (hc : M.1 28 0 2 = nI n) (x y k : Int32) (Q : am_P)
    (h0 : ¬ ((-1000 ≤ x ∧ x ≤ 1000) ∧ (-1000 ≤ y ∧ y ≤ 1000) ∧ (0 ≤ k ∧ k ≤ 9)) → Q (some (.inl (-2))) M)
    (h : (-1000 ≤ x ∧ x ≤ 1000) → (-1000 ≤ y ∧ y ≤ 1000) → (0 ≤ k ∧ k ≤ 9) → n < 4 → Q (some (.inl (nI (n + 1)))) (am_si (am_si (am_si (am_si M 37 0 n x) 38 0 n y) 39 0 n k) 28 0 2 (nI (n + 1))))
    (h1' : n = 4 → ((-1000 ≤ x ∧ x ≤ 1000) ∧ (-1000 ≤ y ∧ y ≤ 1000) ∧ (0 ≤ k ∧ k ≤ 9)) → Q (some (.inl (-4))) M) : X d 88 0 [some (.inr (.inl (28, 0))), some (.inl (x)), some (.inl (y)), some (.inl (k))] [] M Q := by
  refine am_go hX [] 80 ?_
  refine am_cc hd (cm_in hX _ _ _ _ _ _ (fun a1 a2 => ?_) (fun c => am_beq0 (h0 fun q => c q.1)))
  refine am_beq1 (am_cc hd (cm_in hX _ _ _ _ _ _ (fun b1 b2 => ?_) (fun c => am_beq0 (h0 fun q => c q.2.1))))
  refine am_beq1 (am_cc hd (cm_in hX _ _ _ _ _ _ (fun c1 c2 => ?_) (fun c => am_bne0 (h0 fun q => c q.2.2))))
  refine am_bne1 ⟨fun (c : ¬ M.1 28 0 2 = 4) => ?_, fun (c : ¬ ¬ M.1 28 0 2 = 4) => ?_⟩
  · have hn4 : n < 4 := by
      rcases Nat.lt_or_ge n 4 with q | q
      · exact q
      · have : n = 4 := by omega
        subst this; exact absurd hc c
    refine ⟨n, hn4, hc, n, hn4, hc, n, hn4, hc, ?_⟩
    have := h ⟨a1, a2⟩ ⟨b1, b2⟩ ⟨c1, c2⟩ hn4
    rw [← nI_1, ← hc] at this
    have e : (am_si (am_si (am_si (am_si M 37 0 n x) 38 0 n y) 39 0 n k) 28 0 2 (M.1 28 0 2 + 1)).1 28 0 2 = M.1 28 0 2 + 1 := by simp [am_si]
    rw [← e] at this
    simp only [e] at this
    show Q (some (.inl ((am_si (am_si (am_si (am_si M 37 0 n x) 38 0 n y) 39 0 n k) 28 0 2 (M.1 28 0 2 + 1)).1 28 0 2))) _
    rw [e]; exact this
  · have c := Classical.not_not.mp c
    rw [hc] at c
    exact h1' ((nI_eq (a := n) (b := 4) (by omega) (by decide)).mp c) ⟨⟨a1, a2⟩, ⟨b1, b2⟩, ⟨c1, c2⟩⟩
theorem cm_kind {X : am_X} (hX : am_Cl X) (d : Nat) (M : am_M) (hd : 1 ≤ d) (m k : Int32) (Q : am_P) (h0 : ¬ (1 ≤ m ∧ m ≤ 9) → Q (some (.inl (-1))) M) (h1 : (1 ≤ m ∧ m ≤ 9) → ¬ (0 ≤ k ∧ k ≤ 2) → Q (some (.inl (-2))) M)
    (h : (1 ≤ m ∧ m ≤ 9) → (0 ≤ k ∧ k ≤ 2) → ∃ n, n < 10 ∧ m = nI n ∧ Q (some (.inl (M.1 40 0 n))) (am_si (am_si M 40 0 n k) 28 0 16 1)) : X d 91 0 [some (.inr (.inl (28, 0))), some (.inl (m)), some (.inl (k)), none] [] M Q := by
  refine am_go hX [] 60 ?_
  refine am_cc hd (cm_in hX _ _ _ _ _ _ (fun a1 a2 => ?_) (fun c => am_bne0 (h0 c)))
  refine am_bne1 (am_cc hd (cm_in hX _ _ _ _ _ _ (fun b1 b2 => ?_) (fun c => am_bne0 (h1 ⟨a1, a2⟩ c))))
  obtain ⟨n, hn, e, h'⟩ := h ⟨a1, a2⟩ ⟨b1, b2⟩
  exact am_bne1 ⟨n, hn, e, n, hn, e, Or.inr rfl, h'⟩
theorem cm_rule {X : am_X} (hX : am_Cl X) (d : Nat) (M : am_M) (hd : 1 ≤ d) (m k : Int32) (Q : am_P) (h0 : ¬ (0 ≤ m ∧ m ≤ 5) → Q (some (.inl (-1))) M) (h1 : ∀ n, n < 6 → m = nI n → ¬ (am_stT 59 n ≤ k ∧ k ≤ am_stT 60 n) → Q (some (.inl (-2))) M)
    (h : ∀ n, n < 6 → m = nI n → (am_stT 59 n ≤ k ∧ k ≤ am_stT 60 n) → Q (some (.inl (M.1 41 0 n))) (am_si (am_si M 41 0 n k) 28 0 16 1)) : X d 92 0 [some (.inr (.inl (28, 0))), some (.inl (m)), some (.inl (k)), none] [] M Q := by
  refine am_go hX [31] 80 ?_
  refine am_cc hd (cm_in hX _ _ _ _ _ _ (fun a1 a2 => ?_) (fun c => am_bne0 (h0 c)))
  obtain ⟨n, hn, rfl⟩ : ∃ n, n < 6 ∧ m = nI n := by
    obtain ⟨n, hn, rfl⟩ := nI_of2 (M := 5) (n := 5) rfl (Int32.not_lt.mpr a1) a2
    exact ⟨n, by omega, rfl⟩
  have h0' := h1 n hn rfl
  have h' := h n hn rfl
  have fin : ∀ lo hi : Int32, am_stT 59 n = lo → am_stT 60 n = hi → X d 92 31 [some (.inr (.inl (28, 0))), some (.inl (nI n)), some (.inl (k)), none] [.inl hi, .inl lo, .inl k, .inr (.inl (28, 0))] M Q := by
    rintro lo hi rfl rfl
    refine am_go hX [] 40 ?_
    refine am_cc hd (cm_in hX _ _ _ _ _ _ (fun b1 b2 => ?_) (fun c => am_bne0 (h0' c)))
    exact am_bne1 ⟨n, hn, rfl, n, hn, rfl, Or.inr rfl, h' ⟨b1, b2⟩⟩
  refine am_bne1 ?_
  match n, hn, fin with
  | 0, _, fin => exact ⟨fun (c : (4 : Int32) ≤ nI 0) => absurd c (by decide), fun _ => ⟨fun (c : ¬ nI 0 = 0) => absurd rfl c, fun _ => fin _ _ rfl rfl⟩⟩
  | 1, _, fin => exact ⟨fun (c : (4 : Int32) ≤ nI 1) => absurd c (by decide), fun _ => ⟨fun _ => ⟨fun (c : (4 : Int32) ≤ nI 1) => absurd c (by decide), fun _ => fin _ _ rfl rfl⟩, fun (c : ¬ ¬ nI 1 = 0) => absurd (by decide) c⟩⟩
  | 2, _, fin => exact ⟨fun (c : (4 : Int32) ≤ nI 2) => absurd c (by decide), fun _ => ⟨fun _ => ⟨fun (c : (4 : Int32) ≤ nI 2) => absurd c (by decide), fun _ => fin _ _ rfl rfl⟩, fun (c : ¬ ¬ nI 2 = 0) => absurd (by decide) c⟩⟩
  | 3, _, fin => exact ⟨fun (c : (4 : Int32) ≤ nI 3) => absurd c (by decide), fun _ => ⟨fun _ => ⟨fun (c : (4 : Int32) ≤ nI 3) => absurd c (by decide), fun _ => fin _ _ rfl rfl⟩, fun (c : ¬ ¬ nI 3 = 0) => absurd (by decide) c⟩⟩
  | 4, _, fin => exact ⟨fun _ => ⟨fun _ => ⟨fun _ => ⟨fun (c : ¬ nI 4 = 4) => absurd rfl c, fun _ => fin _ _ rfl rfl⟩, fun (c : ¬ (4 : Int32) ≤ nI 4) => absurd (by decide) c⟩, fun (c : ¬ ¬ nI 4 = 0) => absurd (by decide) c⟩, fun (c : ¬ (4 : Int32) ≤ nI 4) => absurd (by decide) c⟩
  | 5, _, fin => exact ⟨fun _ => ⟨fun _ => ⟨fun _ => ⟨fun _ => fin _ _ rfl rfl, fun (c : ¬ ¬ nI 5 = 4) => absurd (by decide) c⟩, fun (c : ¬ (4 : Int32) ≤ nI 5) => absurd (by decide) c⟩, fun (c : ¬ ¬ nI 5 = 0) => absurd (by decide) c⟩, fun (c : ¬ (4 : Int32) ≤ nI 5) => absurd (by decide) c⟩
  | n + 6, hn, _ => omega
end
section
/-! memories that differ in some families alone -/
def am_fr (L : List Nat) (M M' : am_M) : Prop := M'.2 = M.2 ∧ ∀ f i k, f ∉ L → M'.1 f i k = M.1 f i k
theorem am_fr_rf (L : List Nat) (M : am_M) : am_fr L M M := ⟨rfl, fun _ _ _ _ => rfl⟩
theorem am_fr_si {L : List Nat} {M M' : am_M} {f i k : Nat} {x : Int32} (h : am_fr L M M') (hf : f ∈ L) : am_fr L M (am_si M' f i k x) := by
  refine ⟨h.1, fun f' i' k' hn => ?_⟩
  show (if f' = f ∧ i' = i ∧ k' = k then x else M'.1 f' i' k') = _
  rw [if_neg (fun q => hn (by rw [q.1]; exact hf))]
  exact h.2 f' i' k' hn
theorem am_fr_tr {L : List Nat} {M M' M'' : am_M} (h : am_fr L M M') (h' : am_fr L M' M'') : am_fr L M M'' := ⟨h'.1.trans h.1, fun f i k hn => (h'.2 f i k hn).trans (h.2 f i k hn)⟩
theorem am_fr_mono {L L' : List Nat} {M M' : am_M} (h : am_fr L M M') (hs : ∀ f ∈ L, f ∈ L') : am_fr L' M M' := ⟨h.1, fun f i k hn => h.2 f i k (fun q => hn (hs f q))⟩
theorem am_si_at {M : am_M} {f i k f' i' k' : Nat} {x : Int32} : (am_si M f i k x).1 f' i' k' = if f' = f ∧ i' = i ∧ k' = k then x else M.1 f' i' k' := rfl
theorem am_si_2 {M : am_M} {f i k : Nat} {x : Int32} : (am_si M f i k x).2 = M.2 := rfl
/-- behind the reference's scan -/
def cm_scanP (M M' : am_M) (s q : Nat) (w m : Int32) : Prop :=
  am_fr [28, 31, 32, 33, 34, 35, 36] M M' ∧ (∀ k, M'.1 28 0 k = if k = 1 then nI (s + 1) else if k = 2 then 0 else if k = 16 then 1 else M.1 28 0 k) ∧
  (∀ j, M'.1 31 0 j = if j = s then w else M.1 31 0 j) ∧ (∀ j, M'.1 32 0 j = if j = s then m else M.1 32 0 j) ∧ (∀ j, M'.1 33 0 j = if j = s then nI q else M.1 33 0 j) ∧
  (∀ j, M'.1 34 0 j = if 4 * s ≤ j ∧ j < 4 * s + q then M.1 37 0 (j - 4 * s) else M.1 34 0 j) ∧ (∀ j, M'.1 35 0 j = if 4 * s ≤ j ∧ j < 4 * s + q then M.1 38 0 (j - 4 * s) else M.1 35 0 j) ∧ (∀ j, M'.1 36 0 j = if 4 * s ≤ j ∧ j < 4 * s + q then M.1 39 0 (j - 4 * s) else M.1 36 0 j)
theorem cm_scan {X : am_X} (hX : am_Cl X) (d : Nat) (M : am_M) (hd : 2 ≤ d) (s q : Nat) (hs : s ≤ 12) (hq : q ≤ 4) (h2 : M.1 28 0 1 = nI s) (h3 : M.1 28 0 2 = nI q) (w m : Int32) (Q : am_P)
    (h0 : ¬ (0 ≤ w ∧ w ≤ M.1 28 0 0 - 1) → Q (some (.inl (-1))) M) (h1 : 0 ≤ w → w ≤ M.1 28 0 0 - 1 → ¬ (0 ≤ m ∧ m ≤ 999) → Q (some (.inl (-2))) M) (hf : 0 ≤ w → w ≤ M.1 28 0 0 - 1 → (0 ≤ m ∧ m ≤ 999) → s = 12 → Q (some (.inl (-4))) M)
    (h : 0 ≤ w → w ≤ M.1 28 0 0 - 1 → (0 ≤ m ∧ m ≤ 999) → s < 12 → ∀ M', cm_scanP M M' s q w m → Q (some (.inl (nI s))) M') : X d 89 0 [some (.inr (.inl (28, 0))), some (.inl (w)), some (.inl (m)), none] [] M Q := by
  refine am_go hX [41] 60 ?_
  refine am_cc (by omega) (cm_isWatcher hX _ _ (by omega) _ _ (fun w1 w2 => ?_) (fun c => am_bne0 (h0 c)))
  refine am_bne1 (am_cc (by omega) (cm_in hX _ _ _ _ _ _ (fun a1 a2 => ?_) (fun c => am_bne0 (h1 w1 w2 c))))
  refine am_bne1 ⟨fun (c : ¬ M.1 28 0 1 = 12) => ?_, fun (c : ¬ ¬ M.1 28 0 1 = 12) => ?_⟩
  · have hs12 : s < 12 := by
      rcases Nat.lt_or_ge s 12 with z | z
      · exact z
      · have : s = 12 := by omega
        subst this; exact absurd h2 c
    have h := h w1 w2 ⟨a1, a2⟩ hs12
    refine ⟨s, hs12, h2, s, hs12, h2, s, hs12, h2, ?_⟩
    -- the loop over the dots that wait
    have loop : ∀ t k : Nat, k + t = q → ∀ M' : am_M, am_fr [31, 32, 33, 34, 35, 36] M M' →
        (∀ j, M'.1 31 0 j = if j = s then w else M.1 31 0 j) → (∀ j, M'.1 32 0 j = if j = s then m else M.1 32 0 j) → (∀ j, M'.1 33 0 j = if j = s then nI q else M.1 33 0 j) →
        (∀ j, M'.1 34 0 j = if 4 * s ≤ j ∧ j < 4 * s + k then M.1 37 0 (j - 4 * s) else M.1 34 0 j) → (∀ j, M'.1 35 0 j = if 4 * s ≤ j ∧ j < 4 * s + k then M.1 38 0 (j - 4 * s) else M.1 35 0 j) → (∀ j, M'.1 36 0 j = if 4 * s ≤ j ∧ j < 4 * s + k then M.1 39 0 (j - 4 * s) else M.1 36 0 j) →
        X d 89 41 [some (.inr (.inl (28, 0))), some (.inl (w)), some (.inl (m)), some (.inl (nI k))] [] M' Q := by
      intro t
      induction t with
      | zero =>
        intro k hk M' fr g1 g2 g3 g4 g5 g6
        have hk : k = q := by omega
        subst hk
        have e2 : M'.1 28 0 2 = nI k := (fr.2 28 0 2 (by decide)).trans h3
        have e1 : M'.1 28 0 1 = nI s := (fr.2 28 0 1 (by decide)).trans h2
        refine am_go hX [41] 60 ?_
        refine ⟨fun _ => ?_, fun (c : ¬ M'.1 28 0 2 ≤ nI k) => absurd (by rw [e2]; exact nI_le (Nat.le_refl k) (by omega)) c⟩
        refine ⟨Or.inr rfl, ?_⟩
        show Q (some (.inl ((am_si (am_si (am_si M' 28 0 2 0) 28 0 1 (M'.1 28 0 1 + 1)) 28 0 16 1).1 28 0 1 - 1))) (am_si (am_si (am_si M' 28 0 2 0) 28 0 1 (M'.1 28 0 1 + 1)) 28 0 16 1)
        have ev : (am_si (am_si (am_si M' 28 0 2 0) 28 0 1 (M'.1 28 0 1 + 1)) 28 0 16 1).1 28 0 1 - 1 = nI s := by simp [am_si_at, e1]
        rw [ev]
        refine h _ ⟨⟨fr.1, fun f i j hn => ?_⟩, fun j => ?_, fun j => ?_, fun j => ?_, fun j => ?_, fun j => ?_, fun j => ?_, fun j => ?_⟩
        · have h28 : f ≠ 28 := fun z => hn (by rw [z]; decide)
          simp only [am_si_at, h28, false_and, if_false]
          exact fr.2 f i j (fun z => hn (List.mem_cons_of_mem _ z))
        · simp only [am_si_at, e1, nI_1, true_and]
          have := fr.2 28 0 j (by decide)
          repeat' split
          all_goals first | rfl | (exfalso; omega) | exact this
        · exact (by simp [am_si_at] : _ = M'.1 31 0 j).trans (g1 j)
        · exact (by simp [am_si_at] : _ = M'.1 32 0 j).trans (g2 j)
        · exact (by simp [am_si_at] : _ = M'.1 33 0 j).trans (g3 j)
        · exact (by simp [am_si_at] : _ = M'.1 34 0 j).trans (g4 j)
        · exact (by simp [am_si_at] : _ = M'.1 35 0 j).trans (g5 j)
        · exact (by simp [am_si_at] : _ = M'.1 36 0 j).trans (g6 j)
      | succ t ih =>
        intro k hk M' fr g1 g2 g3 g4 g5 g6
        have e2 : M'.1 28 0 2 = nI q := (fr.2 28 0 2 (by decide)).trans h3
        have e1 : M'.1 28 0 1 = nI s := (fr.2 28 0 1 (by decide)).trans h2
        have ix : 4 * M'.1 28 0 1 + nI k = nI (4 * s + k) := by rw [e1, show (4 : Int32) = nI 4 from rfl, pk_mul, nI_add]
        refine am_go hX [41] 60 ?_
        refine ⟨fun (c : M'.1 28 0 2 ≤ nI k) => absurd c (by rw [e2]; exact nI_ge (by omega) (by omega)), fun _ => ?_⟩
        have l48 : 4 * s + k < 48 := by omega
        have k4 : k < 4 := by omega
        refine ⟨k, k4, rfl, 4 * s + k, l48, ix, k, k4, rfl, 4 * s + k, l48, ix, k, k4, rfl, 4 * s + k, l48, ix, ?_⟩
        refine (fun (z : X d 89 41 [some (.inr (.inl (28, 0))), some (.inl (w)), some (.inl (m)), some (.inl (nI k + 1))] [] (am_si (am_si (am_si M' 34 0 (4 * s + k) (M'.1 37 0 k)) 35 0 (4 * s + k) (M'.1 38 0 k)) 36 0 (4 * s + k) (M'.1 39 0 k)) Q) => z) ?_
        rw [nI_1]
        refine ih (k + 1) (by omega) _ (am_fr_si (am_fr_si (am_fr_si fr (by decide)) (by decide)) (by decide)) (fun j => ?_) (fun j => ?_) (fun j => ?_) (fun j => ?_) (fun j => ?_) (fun j => ?_)
        · exact (by simp [am_si_at] : _ = M'.1 31 0 j).trans (g1 j)
        · exact (by simp [am_si_at] : _ = M'.1 32 0 j).trans (g2 j)
        · exact (by simp [am_si_at] : _ = M'.1 33 0 j).trans (g3 j)
        · have e := fr.2 37 0 k (by decide)
          simp only [am_si_at, g4 j, e, true_and]
          by_cases hj : j = 4 * s + k
          · subst hj; simp
          · simp [hj]; split <;> split <;> first | rfl | (exfalso; omega)
        · have e := fr.2 38 0 k (by decide)
          simp only [am_si_at, g5 j, e, true_and]
          by_cases hj : j = 4 * s + k
          · subst hj; simp
          · simp [hj]; split <;> split <;> first | rfl | (exfalso; omega)
        · have e := fr.2 39 0 k (by decide)
          simp only [am_si_at, g6 j, e, true_and]
          by_cases hj : j = 4 * s + k
          · subst hj; simp
          · simp [hj]; split <;> split <;> first | rfl | (exfalso; omega)
    refine (fun (z : X d 89 41 [some (.inr (.inl (28, 0))), some (.inl (w)), some (.inl (m)), some (.inl (nI 0))] [] (am_si (am_si (am_si M 31 0 s w) 32 0 s m) 33 0 s (M.1 28 0 2)) Q) => z) ?_
    refine loop q 0 (by omega) _ (am_fr_si (am_fr_si (am_fr_si (am_fr_rf _ M) (by decide)) (by decide)) (by decide)) (fun j => ?_) (fun j => ?_) (fun j => ?_) (fun j => ?_) (fun j => ?_) (fun j => ?_)
    · simp [am_si_at]
    · simp [am_si_at]
    · simp [am_si_at, h3]
    · rw [if_neg (by omega)]; simp [am_si_at]
    · rw [if_neg (by omega)]; simp [am_si_at]
    · rw [if_neg (by omega)]; simp [am_si_at]
  · have c := Classical.not_not.mp c
    rw [h2] at c
    exact hf w1 w2 ⟨a1, a2⟩ ((nI_eq (a := s) (b := 12) (by omega) (by decide)).mp c)
end
section
/-- how far the reference's drop has come: scans from a on moved up to b, dots of the b-th moved up to c -/
def cm_dropP (M M' : am_M) (a b c : Nat) : Prop :=
  am_fr [31, 32, 33, 34, 35, 36] M M' ∧
  (∀ f, f = 31 ∨ f = 32 ∨ f = 33 → ∀ j, M'.1 f 0 j = if a ≤ j ∧ j < b then M.1 f 0 (j + 1) else M.1 f 0 j) ∧
  (∀ f, f = 34 ∨ f = 35 ∨ f = 36 → ∀ j, M'.1 f 0 j = if 4 * a ≤ j ∧ j < c then M.1 f 0 (j + 4) else M.1 f 0 j)
theorem cm_drop {X : am_X} (hX : am_Cl X) (d : Nat) (M : am_M) (hd : 2 ≤ d) (s : Nat) (hs : s ≤ 12) (h2 : M.1 28 0 1 = nI s) (w : Int32) (Q : am_P)
    (h0 : ¬ (0 ≤ w ∧ w ≤ M.1 28 0 1 - 1) → Q (some (.inl (-1))) M)
    (h : ∀ a, a < s → w = nI a → ∀ M', cm_dropP (am_si M 28 0 1 (nI (s - 1))) M' a (s - 1) (4 * (s - 1)) → Q (some (.inl (nI (s - 1)))) (am_si M' 28 0 16 1)) : X d 90 0 [some (.inr (.inl (28, 0))), some (.inl (w)), none, none] [] M Q := by
  refine am_go hX [14] 60 ?_
  refine am_cc (by omega) (cm_isScan hX _ _ (by omega) _ _ (fun w1 w2 => ?_) (fun c => am_bne0 (h0 c)))
  obtain ⟨a, ha, rfl⟩ : ∃ k, k < s ∧ w = nI k := by
    obtain ⟨k, hk, rfl⟩ := nI_of (Int32.not_lt.mpr w1)
    rw [h2] at w2
    cases s with
    | zero => exact absurd w2 (by rw [show nI 0 - 1 = -1 from rfl]; exact Int32.not_le.mpr (Int32.lt_of_lt_of_le (by decide : (-1 : Int32) < 0) (nI_pos' hk)))
    | succ s =>
      rw [nI_pred] at w2
      have := (nI_leI hk (by omega)).mp w2
      exact ⟨k, by omega, rfl⟩
  have h := h a ha rfl
  have en : nI s - 1 = nI (s - 1) := by
    obtain ⟨t, rfl⟩ : ∃ t, s = t + 1 := ⟨s - 1, by omega⟩
    exact nI_pred t
  refine am_bne1 ?_
  refine (fun (z : X d 90 14 [some (.inr (.inl (28, 0))), some (.inl (nI a)), some (.inl (nI a)), none] [] (am_si M 28 0 1 (M.1 28 0 1 - 1)) Q) => z) ?_
  rw [h2, en]
  generalize hM0 : am_si M 28 0 1 (nI (s - 1)) = M0 at h ⊢
  have e0 : M0.1 28 0 1 = nI (s - 1) := by rw [← hM0]; simp [am_si_at]
  have inner : ∀ t c k b : Nat, c + t = 4 → a ≤ b → b < s - 1 → k = 4 * b + c → ∀ M' : am_M, cm_dropP M0 M' a (b + 1) k →
      (∀ M'' : am_M, cm_dropP M0 M'' a (b + 1) (4 * (b + 1)) → ∀ z, X d 90 14 [some (.inr (.inl (28, 0))), some (.inl (nI a)), some (.inl (nI (b + 1))), z] [] M'' Q) → X d 90 50 [some (.inr (.inl (28, 0))), some (.inl (nI a)), some (.inl (nI b)), some (.inl (nI c))] [] M' Q := by
    intro t
    induction t with
    | zero =>
      intro c k b hc hab hb hk M' hP out
      have hc : c = 4 := by omega
      subst hc
      refine am_go hX [14] 60 ?_
      refine ⟨fun _ => ?_, fun (q : ¬ (4 : Int32) ≤ nI 4) => absurd (by decide) q⟩
      refine (fun (z : X d 90 14 [some (.inr (.inl (28, 0))), some (.inl (nI a)), some (.inl (nI b + 1)), some (.inl (nI 4))] [] M' Q) => z) ?_
      rw [nI_1]
      refine out M' ?_ _
      rw [show 4 * (b + 1) = k by omega]; exact hP
    | succ t ih =>
      intro c k b hc hab hb hk M' hP out
      refine am_go hX [14, 50] 80 ?_
      refine ⟨fun (q : (4 : Int32) ≤ nI c) => absurd q (nI_ge (b := 4) (by omega) (by decide)), fun _ => ?_⟩
      have ix : 4 * nI b + nI c = nI k := by rw [show (4 : Int32) = nI 4 from rfl, pk_mul, nI_add, hk]
      have ix4 : 4 * nI b + 4 + nI c = nI (k + 4) := by rw [show (4 : Int32) = nI 4 from rfl, pk_mul, nI_add, nI_add]; congr 1; omega
      have l1 : k < 48 := by omega
      have l2 : k + 4 < 48 := by omega
      refine ⟨k + 4, l2, ix4, k, l1, ix, k + 4, l2, ix4, k, l1, ix, k + 4, l2, ix4, k, l1, ix, ?_⟩
      refine (fun (z : X d 90 50 [some (.inr (.inl (28, 0))), some (.inl (nI a)), some (.inl (nI b)), some (.inl (nI c + 1))] [] (am_si (am_si (am_si M' 34 0 k (M'.1 34 0 (k + 4))) 35 0 k (M'.1 35 0 (k + 4))) 36 0 k (M'.1 36 0 (k + 4))) Q) => z) ?_
      rw [nI_1]
      obtain ⟨fr, g1, g2⟩ := hP
      refine ih (c + 1) (k + 1) b (by omega) hab hb (by omega) _ ⟨am_fr_si (am_fr_si (am_fr_si fr (by decide)) (by decide)) (by decide), fun f hf j => ?_, fun f hf j => ?_⟩ out
      · rw [← g1 f hf j]; rcases hf with rfl | rfl | rfl <;> simp [am_si_at]
      · have e4 := g2 f hf (k + 4)
        rw [if_neg (by omega)] at e4
        have ej := g2 f hf j
        rcases hf with rfl | rfl | rfl
        all_goals
          simp only [am_si_at, e4, ej, true_and]
          by_cases hj : j = k
          · subst hj; simp; omega
          · simp [hj]; split <;> split <;> first | rfl | (exfalso; omega)
  have loop : ∀ t b : Nat, b + t = s - 1 → a ≤ b → ∀ M' : am_M, cm_dropP M0 M' a b (4 * b) → ∀ z, X d 90 14 [some (.inr (.inl (28, 0))), some (.inl (nI a)), some (.inl (nI b)), z] [] M' Q := by
    intro t
    induction t with
    | zero =>
      intro b hb hab M' hP z
      have hb : b = s - 1 := by omega
      subst hb
      have e1 : M'.1 28 0 1 = nI (s - 1) := (hP.1.2 28 0 1 (by decide)).trans e0
      refine am_go hX [14, 50] 60 ?_
      refine ⟨fun _ => ?_, fun (q : ¬ M'.1 28 0 1 ≤ nI (s - 1)) => absurd (by rw [e1]; exact nI_le (Nat.le_refl _) (by omega)) q⟩
      refine ⟨Or.inr rfl, ?_⟩
      refine (fun (z : Q (some (.inl (M'.1 28 0 1))) (am_si M' 28 0 16 1)) => z) ?_
      rw [e1]
      exact h M' hP
    | succ t ih =>
      intro b hb hab M' hP z
      have e1 : M'.1 28 0 1 = nI (s - 1) := (hP.1.2 28 0 1 (by decide)).trans e0
      refine am_go hX [14, 50] 80 ?_
      refine ⟨fun (q : M'.1 28 0 1 ≤ nI b) => absurd q (by rw [e1]; exact nI_ge (by omega) (by omega)), fun _ => ?_⟩
      have l1 : b < 12 := by omega
      have l2 : b + 1 < 12 := by omega
      refine ⟨b + 1, l2, nI_1 b, b, l1, rfl, b + 1, l2, nI_1 b, b, l1, rfl, b + 1, l2, nI_1 b, b, l1, rfl, ?_⟩
      refine (fun (z : X d 90 50 [some (.inr (.inl (28, 0))), some (.inl (nI a)), some (.inl (nI b)), some (.inl (nI 0))] [] (am_si (am_si (am_si M' 31 0 b (M'.1 31 0 (b + 1))) 32 0 b (M'.1 32 0 (b + 1))) 33 0 b (M'.1 33 0 (b + 1))) Q) => z) ?_
      obtain ⟨fr, g1, g2⟩ := hP
      refine inner 4 0 (4 * b) b (by omega) hab (by omega) rfl _ ⟨am_fr_si (am_fr_si (am_fr_si fr (by decide)) (by decide)) (by decide), fun f hf j => ?_, fun f hf j => ?_⟩ (fun M'' hP'' z => ih (b + 1) (by omega) (by omega) M'' hP'' z)
      · have e4 := g1 f hf (b + 1)
        rw [if_neg (by omega)] at e4
        have ej := g1 f hf j
        rcases hf with rfl | rfl | rfl
        all_goals
          simp only [am_si_at, e4, ej, true_and]
          by_cases hj : j = b
          · subst hj; simp; omega
          · simp [hj]; split <;> split <;> first | rfl | (exfalso; omega)
      · rw [← g2 f hf j]; rcases hf with rfl | rfl | rfl <;> simp [am_si_at]
  refine loop (s - 1 - a) a (by omega) (Nat.le_refl a) M0 ⟨am_fr_rf _ _, fun f hf j => ?_, fun f hf j => ?_⟩ none
  · rw [if_neg (by omega)]
  · rw [if_neg (by omega)]
end
section
/-! THE PURE PICTURE. What was told (ta), worlds (wd), joins; what is reckoned from them. -/
/-- scans; shifts; of each scan watcher, moment, number of dots; of each dot x, y, mark; kinds; rules -/
abbrev ta : Type := Nat × (Nat → Int32) × (Nat → Int32) × (Nat → Nat) × (Nat → Nat) × (Nat → Nat) × (Nat → Nat → Int32) × (Nat → Nat → Int32) × (Nat → Nat → Nat) × (Nat → Nat) × (Nat → Nat)
def ta_n (τ : ta) : Nat := τ.1
def ta_sa (τ : ta) : Nat → Int32 := τ.2.1
def ta_sb (τ : ta) : Nat → Int32 := τ.2.2.1
def ta_wt (τ : ta) : Nat → Nat := τ.2.2.2.1
def ta_mo (τ : ta) : Nat → Nat := τ.2.2.2.2.1
def ta_dn (τ : ta) : Nat → Nat := τ.2.2.2.2.2.1
def ta_dx (τ : ta) : Nat → Nat → Int32 := τ.2.2.2.2.2.2.1
def ta_dy (τ : ta) : Nat → Nat → Int32 := τ.2.2.2.2.2.2.2.1
def ta_dm (τ : ta) : Nat → Nat → Nat := τ.2.2.2.2.2.2.2.2.1
def ta_kd (τ : ta) : Nat → Nat := τ.2.2.2.2.2.2.2.2.2.1
def ta_ru (τ : ta) : Nat → Nat := τ.2.2.2.2.2.2.2.2.2.2
def ta_in (x : Int32) (b : Int) : Prop := -b ≤ x.toInt ∧ x.toInt ≤ b
def ta_ok (τ : ta) : Prop :=
  ta_n τ ≤ 12 ∧ (∀ w, w < 3 → ta_in (ta_sa τ w) 50 ∧ ta_in (ta_sb τ w) 50) ∧
  (∀ s, s < ta_n τ → ta_wt τ s < 3 ∧ ta_mo τ s ≤ 999 ∧ ta_dn τ s ≤ 4 ∧ ∀ d, d < ta_dn τ s → ta_in (ta_dx τ s d) 1000 ∧ ta_in (ta_dy τ s d) 1000 ∧ ta_dm τ s d ≤ 9) ∧
  (∀ k, k < 10 → ta_kd τ k ≤ 2) ∧ ta_ru τ 0 ≤ 500 ∧ ta_ru τ 1 ≤ 100000 ∧ ta_ru τ 2 ≤ 100000 ∧ ta_ru τ 3 ≤ 100000 ∧ (1 ≤ ta_ru τ 4 ∧ ta_ru τ 4 ≤ 9) ∧ (1 ≤ ta_ru τ 5 ∧ ta_ru τ 5 ≤ 4)
/-- a dot put right -/
def ta_rx (τ : ta) (s d : Nat) : Int32 := ta_dx τ s d + ta_sa τ (ta_wt τ s)
def ta_ry (τ : ta) (s d : Nat) : Int32 := ta_dy τ s d + ta_sb τ (ta_wt τ s)
/-- the order of scans: the s-th goes in at a place not behind p -/
def od_in (mo : Nat → Nat) (s : Nat) : Nat → (Nat → Nat) → Nat → Nat
  | 0, o => fun i => if i = 0 then s else o i
  | p + 1, o => if mo s < mo (o p) then od_in mo s p (fun i => if i = p + 1 then o p else o i) else fun i => if i = p + 1 then s else o i
def od_k (mo : Nat → Nat) : Nat → Nat → Nat
  | 0 => fun _ => 0
  | k + 1 => od_in mo k k (od_k mo k)
def od (τ : ta) : Nat → Nat := od_k (ta_mo τ) (ta_n τ)
/-- a world: what it costs, how many tracks, their fields (x, y, u, v, latest, hits, missed, mark, ended), accounts of dots -/
abbrev wd : Type := Nat × Nat × (Nat → Nat → Int32) × (Nat → Nat → Int32)
def wd_c (w : wd) : Nat := w.1
def wd_n (w : wd) : Nat := w.2.1
def wd_t (w : wd) : Nat → Nat → Int32 := w.2.2.1
def wd_a (w : wd) : Nat → Nat → Int32 := w.2.2.2
/-- how many times its pace a track goes on, and where it is foretold to be -/
def tk_ah (kd : Nat) (d : Int) : Int := if kd = 1 then 0 else if kd = 2 then -d else d
def tk_f (τ : ta) (t : Nat → Int32) (m : Int) (c : Nat) : Int := (t c).toInt + tk_ah (ta_kd τ (t 7).toNatClampNeg) (m - (t 4).toInt) * (t (c + 2)).toInt
/-- what joining dot d of scan s to the track costs -/
def tk_sq (τ : ta) (t : Nat → Int32) (s d : Nat) : Nat := (((ta_rx τ s d).toInt - tk_f τ t (ta_mo τ s) 0) * ((ta_rx τ s d).toInt - tk_f τ t (ta_mo τ s) 0) + ((ta_ry τ s d).toInt - tk_f τ t (ta_mo τ s) 1) * ((ta_ry τ s d).toInt - tk_f τ t (ta_mo τ s) 1)).toNat
def tk_toll (τ : ta) (t : Nat → Int32) (s d : Nat) : Option Nat :=
  if t 8 = 0 ∧ (t 7 = 0 ∨ ta_dm τ s d = 0 ∨ t 7 = nI (ta_dm τ s d)) ∧ tk_sq τ t s d ≤ ta_ru τ 0 * ta_ru τ 0 then some (tk_sq τ t s d) else none
/-- all joins behind a beginning, in their order: cost, picks (a track, 6 begun, 7 false) -/
def jn_sub (T : Nat → Nat → Option Nat) (nT miss birth fals : Nat) : Nat → Nat → Nat → Nat → Nat → (Nat → Bool) → List Nat → List (Nat × List Nat)
  | 0, _, c, u, _, _, pre => [(c + u * miss, pre)]
  | r + 1, e, c, u, b, tak, pre =>
    ((List.range nT).flatMap fun k => match T k e with
      | none => []
      | some t => bif tak k then [] else jn_sub T nT miss birth fals r (e + 1) (c + t) (u - 1) b (fun j => bif Nat.beq j k then true else tak j) (pre ++ [k])) ++
    ((if nT + b < 6 then jn_sub T nT miss birth fals r (e + 1) (c + birth) u (b + 1) tak (pre ++ [6]) else []) ++
    jn_sub T nT miss birth fals r (e + 1) (c + fals) u b tak (pre ++ [7]))
/-- how many tracks of a world are looked for -/
def wd_lk (t : Nat → Nat → Int32) : Nat → Nat
  | 0 => 0
  | k + 1 => wd_lk t k + (if t k 8 = 0 then 1 else 0)
def jn_all (τ : ta) (s : Nat) (w : wd) : List (Nat × List Nat) := jn_sub (fun k e => tk_toll τ (wd_t w k) s e) (wd_n w) (ta_ru τ 1) (ta_ru τ 2) (ta_ru τ 3) (ta_dn τ s) 0 (wd_c w) (wd_lk (wd_t w) (wd_n w)) 0 (fun _ => false) []
/-- the K cheapest so far: cost, place of the world among those kept, picks -/
abbrev jn : Type := Nat × Nat × List Nat
def jn_put (x : jn) : List jn → List jn
  | [] => [x]
  | y :: l => if y.1 ≤ x.1 then y :: jn_put x l else x :: y :: l
def jn_off (K : Nat) (l : List jn) (x : jn) : List jn := (jn_put x l).take K
def wd_0 : wd := (0, 0, fun _ _ => 0, fun _ _ => 0)
def jn_of (τ : ta) (s : Nat) (ws : List wd) : List jn := (List.range ws.length).flatMap fun i => (jn_all τ s (am_nth ws i wd_0)).map fun c => (c.1, i, c.2)
def jn_best (τ : ta) (s : Nat) (ws : List wd) : List jn := (jn_of τ s ws).foldl (jn_off (ta_ru τ 5)) []
/-- a track that gets a dot, that gets none, that begins -/
def tk_hit (τ : ta) (t : Nat → Int32) (s d : Nat) : Nat → Int32 := fun j => match j with
  | 0 => ta_rx τ s d
  | 1 => ta_ry τ s d
  | 2 => if 0 < nI (ta_mo τ s) - t 4 then lb_fd (ta_rx τ s d - t 0) (nI (ta_mo τ s) - t 4) else t 2
  | 3 => if 0 < nI (ta_mo τ s) - t 4 then lb_fd (ta_ry τ s d - t 1) (nI (ta_mo τ s) - t 4) else t 3
  | 4 => nI (ta_mo τ s)
  | 5 => t 5 + 1
  | 6 => 0
  | 7 => if t 7 = 0 then nI (ta_dm τ s d) else t 7
  | j + 8 => t (j + 8)
def tk_miss (τ : ta) (t : Nat → Int32) : Nat → Int32 := if t 8 = 0 then fun j => match j with
    | 6 => t 6 + 1
    | 8 => if nI (ta_ru τ 4) ≤ t 6 + 1 then 1 else 0
    | j => t j
  else t
def tk_new (τ : ta) (s d : Nat) : Nat → Int32 := fun j => match j with
  | 0 => ta_rx τ s d
  | 1 => ta_ry τ s d
  | 4 => nI (ta_mo τ s)
  | 5 => 1
  | 7 => nI (ta_dm τ s d)
  | _ => 0
/-- the first dot that a track was picked for; how many begun ones are ahead of a dot; the dot of a begun one -/
def jp_f (ps : List Nat) (k : Nat) : Nat → Nat → Option Nat
  | 0, _ => none
  | r + 1, e => if am_nth ps e 9 = k then some e else jp_f ps k r (e + 1)
def jp_at (ps : List Nat) (k : Nat) : Option Nat := jp_f ps k ps.length 0
def jp_nb (ps : List Nat) : Nat → Nat
  | 0 => 0
  | e + 1 => jp_nb ps e + (if am_nth ps e 9 = 6 then 1 else 0)
def jp_g (ps : List Nat) (j : Nat) : Nat → Nat → Nat
  | 0, _ => 0
  | r + 1, e => if am_nth ps e 9 = 6 ∧ jp_nb ps e = j then e else jp_g ps j r (e + 1)
def jp_dot (ps : List Nat) (j : Nat) : Nat := jp_g ps j ps.length 0
def jp_ac (n : Nat) (ps : List Nat) (e : Nat) : Int32 := if am_nth ps e 9 = 7 then -1 else if am_nth ps e 9 = 6 then nI (n + jp_nb ps e) else nI (am_nth ps e 9)
/-- a join carried out -/
def wd_ap (τ : ta) (s : Nat) (w : wd) (c : Nat) (ps : List Nat) : wd :=
  (c, wd_n w + jp_nb ps ps.length,
    (fun k => if k < wd_n w then (match jp_at ps k with
        | some d => tk_hit τ (wd_t w k) s d
        | none => tk_miss τ (wd_t w k)) else tk_new τ s (jp_dot ps (k - wd_n w))),
    fun s' d => if s' = s then jp_ac (wd_n w) ps d else wd_a w s' d)
def wd_step (τ : ta) (s : Nat) (ws : List wd) : List wd := (jn_best τ s ws).map fun x => wd_ap τ s (am_nth ws x.2.1 wd_0) x.1 x.2.2
/-- the worlds kept behind the first i scans in order -/
def wd_k (τ : ta) : Nat → List wd
  | 0 => [wd_0]
  | i + 1 => wd_step τ (od τ i) (wd_k τ i)
def wds (τ : ta) : List wd := wd_k τ (ta_n τ)
end
section
/-! the class's tracks -/
theorem cw_rightX {X : am_X} (hX : am_Cl X) (d : Nat) (M : am_M) (s e w : Nat) (hs : s < 13) (he : e < 4) (hw : w < 3) (h1 : M.1 18 (M.2.1 4 s) 0 = nI w) (Q : am_P) (h : Q (some (.inl (M.1 19 (M.2.1 4 s) e + M.1 2 0 w))) M) : X d 39 0 [some (.inr (.inl (1, 0))), some (.inl (nI s)), some (.inl (nI e))] [] M Q := by
  refine am_go hX [] 30 ?_
  exact ⟨s, hs, rfl, e, he, rfl, s, hs, rfl, w, hw, h1, h⟩
theorem cw_rightY {X : am_X} (hX : am_Cl X) (d : Nat) (M : am_M) (s e w : Nat) (hs : s < 13) (he : e < 4) (hw : w < 3) (h1 : M.1 18 (M.2.1 4 s) 0 = nI w) (Q : am_P) (h : Q (some (.inl (M.1 20 (M.2.1 4 s) e + M.1 3 0 w))) M) : X d 40 0 [some (.inr (.inl (1, 0))), some (.inl (nI s)), some (.inl (nI e))] [] M Q := by
  refine am_go hX [] 30 ?_
  exact ⟨s, hs, rfl, e, he, rfl, s, hs, rfl, w, hw, h1, h⟩
/-- how many times its pace, in ints -/
def ck_ah (k m l : Int32) : Int32 := if k = 1 then 0 else if k = 2 then l - m else m - l
theorem cw_ahead {X : am_X} (hX : am_Cl X) (d : Nat) (M : am_M) (t : Nat) (k m : Int32) (Q : am_P) (h : Q (some (.inl (ck_ah k m (M.1 27 t 4)))) M) : X d 80 0 [some (.inr (.inl (27, t))), some (.inl (k)), some (.inl (m))] [] M Q := by
  refine am_go hX [] 30 ?_
  refine ⟨fun (c : ¬ k = 1) => ⟨fun (c2 : ¬ k = 2) => ?_, fun (c2 : ¬ ¬ k = 2) => ?_⟩, fun (c : ¬ ¬ k = 1) => ?_⟩
  · rw [ck_ah, if_neg c, if_neg c2] at h; exact h
  · rw [ck_ah, if_neg c, if_pos (Classical.not_not.mp c2)] at h; exact h
  · rw [ck_ah, if_pos (Classical.not_not.mp c)] at h; exact h
theorem cw_foretoldX {X : am_X} (hX : am_Cl X) (d : Nat) (M : am_M) (hd : 1 ≤ d) (t : Nat) (k m : Int32) (Q : am_P) (h : Q (some (.inl (M.1 27 t 0 + ck_ah k m (M.1 27 t 4) * M.1 27 t 2))) M) : X d 78 0 [some (.inr (.inl (27, t))), some (.inl (k)), some (.inl (m))] [] M Q := by
  refine am_go hX [] 30 ?_
  exact am_cc hd (cw_ahead hX _ _ _ _ _ _ h)
theorem cw_foretoldY {X : am_X} (hX : am_Cl X) (d : Nat) (M : am_M) (hd : 1 ≤ d) (t : Nat) (k m : Int32) (Q : am_P) (h : Q (some (.inl (M.1 27 t 1 + ck_ah k m (M.1 27 t 4) * M.1 27 t 3))) M) : X d 79 0 [some (.inr (.inl (27, t))), some (.inl (k)), some (.inl (m))] [] M Q := by
  refine am_go hX [] 30 ?_
  exact am_cc hd (cw_ahead hX _ _ _ _ _ _ h)
theorem cw_mayBear {X : am_X} (hX : am_Cl X) (d : Nat) (M : am_M) (t : Nat) (k : Int32) (Q : am_P) (h1 : (M.1 27 t 7 = 0 ∨ k = 0 ∨ M.1 27 t 7 = k) → Q (some (.inl (1))) M) (h0 : ¬ (M.1 27 t 7 = 0 ∨ k = 0 ∨ M.1 27 t 7 = k) → Q (some (.inl (0))) M) : X d 77 0 [some (.inr (.inl (27, t))), some (.inl (k))] [] M Q := by
  refine am_go hX [] 30 ?_
  refine ⟨fun (c : M.1 27 t 7 = 0) => ⟨Or.inr rfl, h1 (Or.inl c)⟩, fun (c : ¬ M.1 27 t 7 = 0) => ⟨fun (c2 : k = 0) => ⟨Or.inr rfl, h1 (Or.inr (Or.inl c2))⟩, fun (c2 : ¬ k = 0) => ⟨fun (c3 : ¬ M.1 27 t 7 = k) => ⟨Or.inl rfl, h0 (fun q => q.elim c (fun q => q.elim c2 c3))⟩, fun (c3 : ¬ ¬ M.1 27 t 7 = k) => ⟨Or.inr rfl, h1 (Or.inr (Or.inr (Classical.not_not.mp c3)))⟩⟩⟩⟩
theorem cw_isConfirmed {X : am_X} (hX : am_Cl X) (d : Nat) (M : am_M) (t : Nat) (Q : am_P) (h1 : 2 ≤ M.1 27 t 5 → Q (some (.inl (1))) M) (h0 : ¬ 2 ≤ M.1 27 t 5 → Q (some (.inl (0))) M) : X d 76 0 [some (.inr (.inl (27, t)))] [] M Q := by
  refine am_go hX [] 30 ?_
  refine ⟨fun (c : M.1 27 t 5 < 2) => ⟨Or.inl rfl, h0 (Int32.not_le.mpr c)⟩, fun (c : ¬ M.1 27 t 5 < 2) => ⟨Or.inr rfl, h1 (Int32.not_lt.mp c)⟩⟩
/-- a row of a track's fields put in its place -/
def ck_row (M M' : am_M) (t : Nat) (r : Nat → Int32) : Prop := am_fr [27] M M' ∧ ∀ t' j, M'.1 27 t' j = if t' = t ∧ j < 9 then r j else M.1 27 t' j
theorem cw_tcopy {X : am_X} (hX : am_Cl X) (d : Nat) (M : am_M) (a b : Nat) (hb : M.1 27 a 8 = 0 ∨ M.1 27 a 8 = 1) (Q : am_P) (h : ∀ M', ck_row M M' b (fun j => M.1 27 a j) → Q none M') : X d 72 0 [some (.inr (.inl (27, b))), some (.inr (.inl (27, a)))] [] M Q := by
  refine am_go hX [] 60 ?_
  refine ⟨by simpa [am_si_at] using hb, h _ ⟨?_, fun t' j => ?_⟩⟩
  · exact am_fr_si (am_fr_si (am_fr_si (am_fr_si (am_fr_si (am_fr_si (am_fr_si (am_fr_si (am_fr_si (am_fr_rf _ M) (by simp)) (by simp)) (by simp)) (by simp)) (by simp)) (by simp)) (by simp)) (by simp)) (by simp)
  · by_cases ht : t' = b
    · subst ht
      match j with
      | 0 => simp [am_si_at]
      | 1 => simp [am_si_at]
      | 2 => simp [am_si_at]
      | 3 => simp [am_si_at]
      | 4 => simp [am_si_at]
      | 5 => simp [am_si_at]
      | 6 => simp [am_si_at]
      | 7 => simp [am_si_at]
      | 8 => simp [am_si_at]
      | j + 9 => simp [show ¬ j + 9 < 9 by omega, am_si_at]
    · simp [am_si_at, ht]
theorem cw_begin {X : am_X} (hX : am_Cl X) (d : Nat) (M : am_M) (t : Nat) (x y m k : Int32) (Q : am_P) (h : ∀ M', ck_row M M' t (fun j => match j with
    | 0 => x | 1 => y | 4 => m | 5 => 1 | 7 => k | _ => 0) → Q none M') : X d 73 0 [some (.inr (.inl (27, t))), some (.inl (x)), some (.inl (y)), some (.inl (m)), some (.inl (k))] [] M Q := by
  refine am_go hX [] 60 ?_
  refine ⟨Or.inl rfl, h _ ⟨?_, fun t' j => ?_⟩⟩
  · exact am_fr_si (am_fr_si (am_fr_si (am_fr_si (am_fr_si (am_fr_si (am_fr_si (am_fr_si (am_fr_si (am_fr_rf _ M) (by simp)) (by simp)) (by simp)) (by simp)) (by simp)) (by simp)) (by simp)) (by simp)) (by simp)
  · by_cases ht : t' = t
    · subst ht
      match j with
      | 0 => simp [am_si_at]
      | 1 => simp [am_si_at]
      | 2 => simp [am_si_at]
      | 3 => simp [am_si_at]
      | 4 => simp [am_si_at]
      | 5 => simp [am_si_at]
      | 6 => simp [am_si_at]
      | 7 => simp [am_si_at]
      | 8 => simp [am_si_at]
      | j + 9 => simp [show ¬ j + 9 < 9 by omega, am_si_at]
    · simp [am_si_at, ht]
/-- the fields of a track behind a hit -/
def ck_hit (r : Nat → Int32) (x y m k : Int32) : Nat → Int32 := fun j => match j with
  | 0 => x
  | 1 => y
  | 2 => if 0 < m - r 4 then lb_fd (x - r 0) (m - r 4) else r 2
  | 3 => if 0 < m - r 4 then lb_fd (y - r 1) (m - r 4) else r 3
  | 4 => m
  | 5 => r 5 + 1
  | 6 => 0
  | 7 => if r 7 = 0 then k else r 7
  | j + 8 => r (j + 8)
theorem cw_hit {X : am_X} (hX : am_Cl X) (d : Nat) (M : am_M) (hd : 1 ≤ d) (t : Nat) (x y m k : Int32) (Q : am_P) (h : ∀ M', ck_row M M' t (ck_hit (M.1 27 t) x y m k) → Q none M') : X d 74 0 [some (.inr (.inl (27, t))), some (.inl (x)), some (.inl (y)), some (.inl (m)), some (.inl (k)), none] [] M Q := by
  have tail : ∀ M0 : am_M, am_fr [27] M M0 → (∀ t' j, M0.1 27 t' j = if t' = t ∧ j = 2 then ck_hit (M.1 27 t) x y m k 2 else if t' = t ∧ j = 3 then ck_hit (M.1 27 t) x y m k 3 else M.1 27 t' j) → X d 74 23 [some (.inr (.inl (27, t))), some (.inl (x)), some (.inl (y)), some (.inl (m)), some (.inl (k)), some (.inl (m - M.1 27 t 4))] [] M0 Q := by
    intro M0 fr h0
    refine am_go hX [] 60 ?_
    have h7 : M0.1 27 t 7 = M.1 27 t 7 := by rw [h0]; simp
    have h5 : M0.1 27 t 5 = M.1 27 t 5 := by rw [h0]; simp
    refine ⟨fun c => ?_, fun c => ?_⟩
    · have c : ¬ M.1 27 t 7 = 0 := by
        have c : ¬ _ = (0 : Int32) := c
        simpa [am_si_at, h7] using c
      refine h _ ⟨am_fr_si (am_fr_si (am_fr_si (am_fr_si (am_fr_si fr (by simp)) (by simp)) (by simp)) (by simp)) (by simp), fun t' j => ?_⟩
      by_cases ht : t' = t
      · subst ht
        match j with
        | 0 => simp [am_si_at, ck_hit]
        | 1 => simp [am_si_at, ck_hit]
        | 2 => simp [am_si_at, h0]
        | 3 => simp [am_si_at, h0]
        | 4 => simp [am_si_at, ck_hit]
        | 5 => simp [am_si_at, ck_hit, h5]
        | 6 => simp [am_si_at, ck_hit]
        | 7 => simp [am_si_at, ck_hit, h7, c]
        | 8 => simp [am_si_at, ck_hit, h0]
        | j + 9 => simp [show ¬ j + 9 < 9 by omega, am_si_at, h0]
      · simp [am_si_at, ht, h0]
    · have c : M.1 27 t 7 = 0 := by
        have c : ¬ ¬ _ = (0 : Int32) := c
        simpa [am_si_at, h7] using c
      refine h _ ⟨am_fr_si (am_fr_si (am_fr_si (am_fr_si (am_fr_si (am_fr_si fr (by simp)) (by simp)) (by simp)) (by simp)) (by simp)) (by simp), fun t' j => ?_⟩
      by_cases ht : t' = t
      · subst ht
        match j with
        | 0 => simp [am_si_at, ck_hit]
        | 1 => simp [am_si_at, ck_hit]
        | 2 => simp [am_si_at, h0]
        | 3 => simp [am_si_at, h0]
        | 4 => simp [am_si_at, ck_hit]
        | 5 => simp [am_si_at, ck_hit, h5]
        | 6 => simp [am_si_at, ck_hit]
        | 7 => simp [am_si_at, ck_hit, c]
        | 8 => simp [am_si_at, ck_hit, h0]
        | j + 9 => simp [show ¬ j + 9 < 9 by omega, am_si_at, h0]
      · simp [am_si_at, ht, h0]
  refine am_go hX [23] 60 ?_
  refine ⟨fun (c : m - M.1 27 t 4 ≤ 0) => ?_, fun (c : ¬ m - M.1 27 t 4 ≤ 0) => ?_⟩
  · refine tail M (am_fr_rf _ M) (fun t' j => ?_)
    have c' : ¬ 0 < m - M.1 27 t 4 := Int32.not_lt.mpr c
    simp only [ck_hit, if_neg c']
    split
    · rename_i q; rw [q.1, q.2]
    · split
      · rename_i q; rw [q.1, q.2]
      · rfl
  · have c' : 0 < m - M.1 27 t 4 := Int32.not_le.mp c
    have hne : ¬ m - M.1 27 t 4 = 0 := fun z => by rw [z] at c'; exact absurd c' (by decide)
    refine am_cc hd (lb_floorDiv hX _ _ _ _ hne _ ?_)
    refine am_cc hd (lb_floorDiv hX _ _ _ _ hne _ ?_)
    refine (fun (z : X d 74 23 [some (.inr (.inl (27, t))), some (.inl (x)), some (.inl (y)), some (.inl (m)), some (.inl (k)), some (.inl (m - M.1 27 t 4))] [] (am_si (am_si M 27 t 2 (lb_fd (x - M.1 27 t 0) (m - M.1 27 t 4))) 27 t 3 (lb_fd (y - (am_si M 27 t 2 (lb_fd (x - M.1 27 t 0) (m - M.1 27 t 4))).1 27 t 1) (m - M.1 27 t 4))) Q) => z) ?_
    refine tail _ (am_fr_si (am_fr_si (am_fr_rf _ M) (by simp)) (by simp)) (fun t' j => ?_)
    simp only [ck_hit, if_pos c']
    by_cases ht : t' = t
    · subst ht
      by_cases h2 : j = 2
      · subst h2; simp [am_si_at]
      · by_cases h3 : j = 3
        · subst h3; simp [am_si_at]
        · simp [am_si_at, h2, h3]
    · simp [am_si_at, ht]
def ck_miss (r : Nat → Int32) (b : Int32) : Nat → Int32 := if r 8 = 0 then fun j => match j with
    | 6 => r 6 + 1
    | 8 => if b ≤ r 6 + 1 then 1 else 0
    | j => r j
  else r
theorem cw_miss {X : am_X} (hX : am_Cl X) (d : Nat) (M : am_M) (t : Nat) (b : Int32) (Q : am_P) (h : ∀ M', ck_row M M' t (ck_miss (M.1 27 t) b) → Q none M') : X d 75 0 [some (.inr (.inl (27, t))), some (.inl (b))] [] M Q := by
  refine am_go hX [] 60 ?_
  refine ⟨fun (c : ¬ M.1 27 t 8 = 0) => ?_, fun (c : ¬ ¬ M.1 27 t 8 = 0) => ?_⟩
  · refine h _ ⟨am_fr_rf _ M, fun t' j => ?_⟩
    simp only [ck_miss, if_neg c]
    split
    · rename_i q; rw [q.1]
    · rfl
  · have c := Classical.not_not.mp c
    have hrow : ∀ v : Int32, v = (if b ≤ M.1 27 t 6 + 1 then 1 else 0) → ck_row M (am_si (am_si M 27 t 6 (M.1 27 t 6 + 1)) 27 t 8 v) t (ck_miss (M.1 27 t) b) := by
      intro v hv
      refine ⟨am_fr_si (am_fr_si (am_fr_rf _ M) (by simp)) (by simp), fun t' j => ?_⟩
      simp only [ck_miss, if_pos c]
      by_cases ht : t' = t
      · subst ht
        match j with
        | 0 => simp [am_si_at]
        | 1 => simp [am_si_at]
        | 2 => simp [am_si_at]
        | 3 => simp [am_si_at]
        | 4 => simp [am_si_at]
        | 5 => simp [am_si_at]
        | 6 => simp [am_si_at]
        | 7 => simp [am_si_at]
        | 8 => simp [am_si_at, hv]
        | j + 9 => simp [show ¬ j + 9 < 9 by omega, am_si_at]
      · simp [am_si_at, ht]
    have er : (am_si M 27 t 6 (M.1 27 t 6 + 1)).1 27 t 6 = M.1 27 t 6 + 1 := by simp [am_si_at]
    refine ⟨fun (c2 : (am_si M 27 t 6 (M.1 27 t 6 + 1)).1 27 t 6 < b) => ⟨Or.inl rfl, h _ (hrow 0 ?_)⟩, fun (c2 : ¬ (am_si M 27 t 6 (M.1 27 t 6 + 1)).1 27 t 6 < b) => ⟨Or.inr rfl, h _ (hrow 1 ?_)⟩⟩
    · rw [er] at c2; rw [if_neg (Int32.not_le.mpr c2)]
    · rw [er] at c2; rw [if_pos (Int32.not_lt.mp c2)]
end
section
/-! lists by am_nth; the K cheapest -/
theorem am_nth_app {α : Type} : ∀ (l1 l2 : List α) (i : Nat) (d : α), am_nth (l1 ++ l2) i d = if i < l1.length then am_nth l1 i d else am_nth l2 (i - l1.length) d
  | [], l2, i, d => by simp
  | a :: l1, l2, 0, d => by simp [am_nth]
  | a :: l1, l2, i + 1, d => by
    show am_nth (l1 ++ l2) i d = _
    rw [am_nth_app l1 l2 i d]
    simp [am_nth]
theorem am_nth_take {α : Type} : ∀ (l : List α) (n i : Nat) (d : α), am_nth (l.take n) i d = if i < n then am_nth l i d else d
  | [], n, i, d => by simp [am_nth]
  | a :: l, 0, i, d => by simp [am_nth]
  | a :: l, n + 1, 0, d => by simp [am_nth]
  | a :: l, n + 1, i + 1, d => by
    show am_nth (l.take n) i d = _
    rw [am_nth_take l n i d]
    simp [am_nth]
theorem am_nth_drop {α : Type} : ∀ (l : List α) (n i : Nat) (d : α), am_nth (l.drop n) i d = am_nth l (n + i) d
  | [], n, i, d => by simp [am_nth]
  | a :: l, 0, i, d => by simp
  | a :: l, n + 1, i, d => by
    rw [show n + 1 + i = (n + i) + 1 by omega]
    exact am_nth_drop l n i d
theorem am_nth_out {α : Type} {l : List α} {k : Nat} {d : α} (h : l.length ≤ k) : am_nth l k d = d := by
  induction l generalizing k with
  | nil => rfl
  | cons a l ih => cases k with
    | zero => simp at h
    | succ k => exact ih (by simp at h; omega)
theorem am_nth_map {α β : Type} (f : α → β) : ∀ (l : List α) (i : Nat) (d : α), am_nth (l.map f) i (f d) = f (am_nth l i d)
  | [], i, d => by simp [am_nth]
  | a :: l, 0, d => rfl
  | a :: l, i + 1, d => am_nth_map f l i d
theorem am_nth_ext {α : Type} {d : α} : ∀ {l1 l2 : List α}, l1.length = l2.length → (∀ i, i < l1.length → am_nth l1 i d = am_nth l2 i d) → l1 = l2
  | [], [], _, _ => rfl
  | [], b :: l2, h, _ => by simp at h
  | a :: l1, [], h, _ => by simp at h
  | a :: l1, b :: l2, h, q => by
    have h0 : a = b := q 0 (by simp)
    rw [h0, am_nth_ext (l1 := l1) (l2 := l2) (by simpa using h) (fun i hi => q (i + 1) (by simp; omega))]
theorem am_nth_in {α : Type} {d : α} : ∀ {l : List α} {i : Nat}, i < l.length → am_nth l i d ∈ l
  | [], i, h => by simp at h
  | a :: l, 0, h => by simp [am_nth]
  | a :: l, i + 1, h => List.mem_cons_of_mem _ (am_nth_in (by simpa using h))
def jn_0 : jn := (0, 0, [])
def jn_srt (l : List jn) : Prop := ∀ i j, i ≤ j → j < l.length → (am_nth l i jn_0).1 ≤ (am_nth l j jn_0).1
theorem jn_put_at (x : jn) : ∀ (l : List jn) (a : Nat), a ≤ l.length → (∀ i, i < a → (am_nth l i jn_0).1 ≤ x.1) → (a < l.length → x.1 < (am_nth l a jn_0).1) → jn_put x l = l.take a ++ x :: l.drop a
  | [], a, h, _, _ => by simp [jn_put]
  | y :: l, 0, _, _, h2 => by
    have h2 : x.1 < y.1 := h2 (by simp)
    simp only [jn_put, if_neg (Nat.not_le.mpr h2)]; simp
  | y :: l, a + 1, h, h1, h2 => by
    have h0 : y.1 ≤ x.1 := h1 0 (by omega)
    simp only [jn_put, if_pos h0]
    rw [jn_put_at x l a (by simpa using h) (fun i hi => h1 (i + 1) (by omega)) (fun q => h2 (by simpa using q))]
    simp
theorem jn_off_at {K : Nat} {l : List jn} {x : jn} {a : Nat} (ha : a ≤ l.length) (h1 : ∀ i, i < a → (am_nth l i jn_0).1 ≤ x.1) (h2 : a < l.length → x.1 < (am_nth l a jn_0).1) (hK : a < K) (hl : l.length ≤ K) :
    (jn_off K l x).length = (if l.length < K then l.length + 1 else K) ∧ ∀ i, i < (jn_off K l x).length → am_nth (jn_off K l x) i jn_0 = if i < a then am_nth l i jn_0 else if i = a then x else am_nth l (i - 1) jn_0 := by
  unfold jn_off
  rw [jn_put_at x l a ha h1 h2]
  have hl1 : ((l.take a ++ x :: l.drop a).take K).length = (if l.length < K then l.length + 1 else K) := by
    simp only [List.length_take, List.length_append, List.length_cons, List.length_drop]
    split <;> omega
  refine ⟨hl1, fun i hi => ?_⟩
  have hiK : i < K := by rw [hl1] at hi; split at hi <;> omega
  rw [am_nth_take, if_pos hiK, am_nth_app, List.length_take, Nat.min_eq_left ha]
  by_cases hia : i < a
  · rw [if_pos hia, if_pos hia, am_nth_take, if_pos hia]
  · rw [if_neg hia, if_neg hia]
    by_cases hie : i = a
    · subst hie; simp [am_nth]
    · rw [if_neg hie]
      obtain ⟨j, rfl⟩ : ∃ j, i = a + (j + 1) := ⟨i - a - 1, by omega⟩
      rw [show a + (j + 1) - a = j + 1 by omega]
      show am_nth (l.drop a) j jn_0 = _
      rw [am_nth_drop]; congr 1
theorem jn_off_srt {K : Nat} {l : List jn} {x : jn} {a : Nat} (hs : jn_srt l) (ha : a ≤ l.length) (h1 : ∀ i, i < a → (am_nth l i jn_0).1 ≤ x.1) (h2 : a < l.length → x.1 < (am_nth l a jn_0).1) (hK : a < K) (hl : l.length ≤ K) : jn_srt (jn_off K l x) := by
  obtain ⟨hl1, he⟩ := jn_off_at ha h1 h2 hK hl
  intro i j hij hj
  have hjl : j ≤ l.length := by rw [hl1] at hj; split at hj <;> omega
  rw [he i (by omega), he j hj]
  by_cases hja : j < a
  · rw [if_pos (by omega), if_pos hja]; exact hs i j hij (by omega)
  · rw [if_neg hja]
    by_cases hje : j = a
    · subst hje; rw [if_pos rfl]
      by_cases hia : i < j
      · rw [if_pos hia]; exact h1 i hia
      · rw [if_neg hia, if_pos (by omega)]; exact Nat.le_refl _
    · rw [if_neg hje]
      by_cases hia : i < a
      · rw [if_pos hia]; exact hs i (j - 1) (by omega) (by omega)
      · rw [if_neg hia]
        by_cases hie : i = a
        · rw [if_pos hie]
          have := h2 (by omega)
          have := hs a (j - 1) (by omega) (by omega)
          omega
        · rw [if_neg hie]; exact hs (i - 1) (j - 1) (by omega) (by omega)
/-- what isn't cheaper than the last of a full list isn't taken -/
theorem jn_off_no {K : Nat} {l : List jn} {x : jn} (hs : jn_srt l) (hK : 1 ≤ K) (hl : l.length = K) (h : (am_nth l (K - 1) jn_0).1 ≤ x.1) : jn_off K l x = l := by
  unfold jn_off
  rw [jn_put_at x l l.length (Nat.le_refl _) (fun i hi => Nat.le_trans (hs i (K - 1) (by omega) (by omega)) h) (fun q => by omega)]
  rw [← hl]; simp
theorem jn_fold_no {K : Nat} {l : List jn} (hs : jn_srt l) (hK : 1 ≤ K) (hl : l.length = K) : ∀ (xs : List jn), (∀ x ∈ xs, (am_nth l (K - 1) jn_0).1 ≤ x.1) → xs.foldl (jn_off K) l = l
  | [], _ => rfl
  | x :: xs, h => by
    rw [List.foldl_cons, jn_off_no hs hK hl (h x List.mem_cons_self)]
    exact jn_fold_no hs hK hl xs (fun y hy => h y (List.mem_cons_of_mem _ hy))
/-- where a new one goes -/
theorem jn_pos (l : List jn) (c : Nat) (hs : jn_srt l) : ∃ a, a ≤ l.length ∧ (∀ i, i < a → (am_nth l i jn_0).1 ≤ c) ∧ (a < l.length → c < (am_nth l a jn_0).1) := by
  have key : ∀ n, n ≤ l.length → (∀ i, i < n → (am_nth l i jn_0).1 ≤ c) ∨ ∃ a, a < n ∧ (∀ i, i < a → (am_nth l i jn_0).1 ≤ c) ∧ c < (am_nth l a jn_0).1 := by
    intro n
    induction n with
    | zero => exact fun _ => Or.inl (fun i hi => by omega)
    | succ n ih =>
      intro hn
      rcases ih (by omega) with h | ⟨a, h1, h2, h3⟩
      · rcases Nat.lt_or_ge c (am_nth l n jn_0).1 with q | q
        · exact Or.inr ⟨n, by omega, h, q⟩
        · refine Or.inl (fun i hi => ?_)
          rcases Nat.lt_or_ge i n with z | z
          · exact h i z
          · have : i = n := by omega
            subst this; exact q
      · exact Or.inr ⟨a, by omega, h2, h3⟩
  rcases key l.length (Nat.le_refl _) with h | ⟨a, h1, h2, h3⟩
  · exact ⟨l.length, Nat.le_refl _, h, fun q => by omega⟩
  · exact ⟨a, by omega, h2, fun _ => h3⟩
end
section
/-! the class's shortlist -/
/-- memories that differ in some families of ints, and of places, alone -/
def am_fg (L LV : List Nat) (M M' : am_M) : Prop := M'.2.2 = M.2.2 ∧ (∀ f k, f ∉ LV → M'.2.1 f k = M.2.1 f k) ∧ ∀ f i k, f ∉ L → M'.1 f i k = M.1 f i k
theorem am_fg_rf (L LV : List Nat) (M : am_M) : am_fg L LV M M := ⟨rfl, fun _ _ _ => rfl, fun _ _ _ _ => rfl⟩
theorem am_fg_si {L LV : List Nat} {M M' : am_M} {f i k : Nat} {x : Int32} (h : am_fg L LV M M') (hf : f ∈ L) : am_fg L LV M (am_si M' f i k x) := by
  refine ⟨h.1, h.2.1, fun f' i' k' hn => ?_⟩
  show (if f' = f ∧ i' = i ∧ k' = k then x else M'.1 f' i' k') = _
  rw [if_neg (fun q => hn (by rw [q.1]; exact hf))]
  exact h.2.2 f' i' k' hn
theorem am_fg_tr {L LV : List Nat} {M M' M'' : am_M} (h : am_fg L LV M M') (h' : am_fg L LV M' M'') : am_fg L LV M M'' := ⟨h'.1.trans h.1, fun f k hn => (h'.2.1 f k hn).trans (h.2.1 f k hn), fun f i k hn => (h'.2.2 f i k hn).trans (h.2.2 f i k hn)⟩
theorem am_fg_mono {L LV L' LV' : List Nat} {M M' : am_M} (h : am_fg L LV M M') (hs : ∀ f ∈ L, f ∈ L') (hv : ∀ f ∈ LV, f ∈ LV') : am_fg L' LV' M M' := ⟨h.1, fun f k hn => h.2.1 f k (fun q => hn (hv f q)), fun f i k hn => h.2.2 f i k (fun q => hn (hs f q))⟩
theorem am_fg_of {L : List Nat} {M M' : am_M} (h : am_fr L M M') (LV : List Nat) : am_fg L LV M M' := ⟨by rw [h.1], fun f k _ => by rw [h.1], h.2⟩
def cs_L (M : am_M) (K n : Nat) (l : List jn) : Prop :=
  M.1 11 0 0 = nI l.length ∧ M.1 11 0 1 = nI K ∧ l.length ≤ K ∧ 1 ≤ K ∧ K ≤ 4 ∧ jn_srt l ∧ (∀ i, i < 4 → M.2.1 12 i < 4) ∧ (∀ i j, i < 4 → j < 4 → M.2.1 12 i = M.2.1 12 j → i = j) ∧
  ∀ i, i < l.length → M.1 22 (M.2.1 12 i) 1 = nI (am_nth l i jn_0).1 ∧ M.1 22 (M.2.1 12 i) 0 = nI (am_nth l i jn_0).2.1 ∧ (am_nth l i jn_0).1 < 2 ^ 30 ∧ ∀ e, e < n → M.1 23 (M.2.1 12 i) e = nI (am_nth (am_nth l i jn_0).2.2 e 9)
theorem cw_takes {X : am_X} (hX : am_Cl X) (d : Nat) (M : am_M) (K n : Nat) (l : List jn) (hL : cs_L M K n l) (c : Nat) (hc : c < 2 ^ 30) (Q : am_P) (h1 : (l.length < K ∨ c < (am_nth l (K - 1) jn_0).1) → Q (some (.inl (1))) M) (h0 : l.length = K → (am_nth l (K - 1) jn_0).1 ≤ c → Q (some (.inl (0))) M) : X d 56 0 [some (.inr (.inl (11, 0))), some (.inl (nI c))] [] M Q := by
  obtain ⟨e0, e1, hl, hK1, hK4, hs, hv, hvi, hel⟩ := hL
  refine am_go hX [] 30 ?_
  refine ⟨fun (q : M.1 11 0 0 < M.1 11 0 1) => ⟨Or.inr rfl, h1 (Or.inl ?_)⟩, fun (q : ¬ M.1 11 0 0 < M.1 11 0 1) => ?_⟩
  · rw [e0, e1] at q; exact (nI_ltI (by omega) (by omega)).mp q
  · have hl' : l.length = K := by
      rw [e0, e1] at q
      rcases Nat.lt_or_ge l.length K with z | z
      · exact absurd (nI_lt z (by omega)) q
      · omega
    obtain ⟨g1, -, g3, -⟩ := hel (K - 1) (by omega)
    have ei : M.1 11 0 0 - 1 = nI (K - 1) := by
      rw [e0, hl']
      obtain ⟨t, rfl⟩ : ∃ t, K = t + 1 := ⟨K - 1, by omega⟩
      exact nI_pred t
    refine ⟨K - 1, by show K - 1 < 4; omega, ei, fun (q2 : M.1 22 (M.2.1 12 (K - 1)) 1 ≤ nI c) => ⟨Or.inl rfl, h0 hl' ?_⟩, fun (q2 : ¬ M.1 22 (M.2.1 12 (K - 1)) 1 ≤ nI c) => ⟨Or.inr rfl, h1 (Or.inr ?_)⟩⟩
    · rw [g1] at q2; exact (nI_leI (by omega) (by omega)).mp q2
    · rw [g1] at q2
      rcases Nat.lt_or_ge c (am_nth l (K - 1) jn_0).1 with z | z
      · exact z
      · exact absurd (nI_le z (by omega)) q2
theorem cw_open {X : am_X} (hX : am_Cl X) (d : Nat) (M : am_M) (hd : 1 ≤ d) (K : Nat) (hK : 1 ≤ K ∧ K ≤ 4) (Q : am_P) (h : Q none (am_si (am_si M 11 0 0 0) 11 0 1 (nI K))) : X d 55 0 [some (.inr (.inl (11, 0))), some (.inl (nI K))] [] M Q := by
  refine am_go hX [] 30 ?_
  have e1 : (if nI K < 4 then nI K else 4) = nI K := by
    by_cases z : K < 4
    · rw [if_pos (show nI K < 4 from nI_lt (b := 4) z (by decide))]
    · have : K = 4 := by omega
      subst this; rfl
  have e2 : (if 1 < nI K then nI K else 1) = nI K := by
    by_cases z : 1 < K
    · rw [if_pos (show 1 < nI K from nI_lt (a := 1) z (by omega))]
    · have : K = 1 := by omega
      subst this; rfl
  refine am_cc hd (lb_min hX _ _ _ _ _ ?_)
  rw [e1]
  refine am_cc hd (lb_max hX _ _ _ _ _ ?_)
  rw [e2]
  exact h
/-- the shortlist behind an offer, out of what its cells hold -/
theorem cs_fin {M M' : am_M} {K n st a p c : Nat} {ps : List Nat} {l : List jn} (hL : cs_L M K n l) (hn : n ≤ 4) (hc : c < 2 ^ 30) (hp : ∀ e, e < n → M.1 15 0 e = nI (am_nth ps e 9)) (hst1 : l.length < K → st = l.length) (hst2 : ¬ l.length < K → st = K - 1)
    (ha : a ≤ st) (h1 : ∀ i, i < a → (am_nth l i jn_0).1 ≤ c) (h2 : a < l.length → c < (am_nth l a jn_0).1)
    (g0 : M'.1 11 0 0 = if l.length < K then nI (l.length + 1) else nI K) (g1 : M'.1 11 0 1 = nI K) (gv : ∀ i, M'.2.1 12 i = if i = a then M.2.1 12 st else if a < i ∧ i ≤ st then M.2.1 12 (i - 1) else M.2.1 12 i)
    (g22 : ∀ q k, M'.1 22 q k = if q = M.2.1 12 st ∧ k = 1 then nI c else if q = M.2.1 12 st ∧ k = 0 then nI p else M.1 22 q k)
    (g23 : ∀ q e, e < 4 → M'.1 23 q e = if q = M.2.1 12 st then M.1 15 0 e else M.1 23 q e) : cs_L M' K n (jn_off K l (c, p, ps)) := by
  obtain ⟨e0, e1, hl, hK1, hK4, hs, hv, hvi, hel⟩ := hL
  have hstl : st ≤ l.length ∧ st < K := by
    by_cases z : l.length < K
    · have := hst1 z; omega
    · have := hst2 z; omega
  obtain ⟨hl1, he⟩ := jn_off_at (K := K) (l := l) (x := (c, p, ps)) (a := a) (by omega) h1 h2 (by omega) hl
  refine ⟨?_, g1, by rw [hl1]; split <;> omega, hK1, hK4, jn_off_srt hs (by omega) h1 h2 (by omega) hl, fun i hi => ?_, fun i j hi hj q => ?_, fun i hi => ?_⟩
  · rw [g0, hl1]; split <;> rfl
  · rw [gv]; split
    · exact hv st (by omega)
    · split
      · exact hv _ (by omega)
      · exact hv i hi
  · rw [gv i, gv j] at q
    repeat' split at q
    all_goals first
      | omega
      | (have := hvi _ _ (by omega) (by omega) q; omega)
  · have hi' : i ≤ st := by
      rw [hl1] at hi
      by_cases z : l.length < K
      · rw [if_pos z] at hi; have := hst1 z; omega
      · rw [if_neg z] at hi; have := hst2 z; omega
    rw [he i hi, gv i]
    by_cases hia : i < a
    · have hne : M.2.1 12 i ≠ M.2.1 12 st := fun q => by have := hvi i st (by omega) (by omega) q; omega
      rw [if_pos hia, if_neg (by omega), if_neg (by omega), g22, g22, if_neg (fun q => hne q.1), if_neg (fun q => hne q.1), if_neg (fun q => hne q.1), if_neg (fun q => hne q.1)]
      obtain ⟨w1, w2, w3, w4⟩ := hel i (by omega)
      refine ⟨w1, w2, w3, fun e hen => ?_⟩
      rw [g23 _ e (by omega), if_neg hne]; exact w4 e hen
    · rw [if_neg hia]
      by_cases hie : i = a
      · subst hie
        rw [if_pos rfl, if_pos rfl, g22, g22, if_pos ⟨rfl, rfl⟩, if_neg (by omega), if_pos ⟨rfl, rfl⟩]
        refine ⟨rfl, rfl, hc, fun e hen => ?_⟩
        rw [g23 _ e (by omega), if_pos rfl]; exact hp e hen
      · have hne : M.2.1 12 (i - 1) ≠ M.2.1 12 st := fun q => by have := hvi (i - 1) st (by omega) (by omega) q; omega
        rw [if_neg hie, if_neg hie, if_pos ⟨by omega, hi'⟩, g22, g22, if_neg (fun q => hne q.1), if_neg (fun q => hne q.1), if_neg (fun q => hne q.1), if_neg (fun q => hne q.1)]
        obtain ⟨w1, w2, w3, w4⟩ := hel (i - 1) (by omega)
        refine ⟨w1, w2, w3, fun e hen => ?_⟩
        rw [g23 _ e (by omega), if_neg hne]; exact w4 e hen
theorem am_sv_at' {M : am_M} {f n j f' k : Nat} : (am_sv M f n j).2.1 f' k = if f' = f ∧ k = n then j else M.2.1 f' k := rfl
theorem am_sr_at {M : am_M} {f i f' i' k : Nat} {r : Nat → Int32} : (am_sr M f i r).1 f' i' k = if f' = f ∧ i' = i then r k else M.1 f' i' k := rfl
set_option maxHeartbeats 1000000 in
theorem cw_offer {X : am_X} (hX : am_Cl X) (d : Nat) (M : am_M) (hd : 1 ≤ d) (K n : Nat) (hn : n ≤ 4) (l : List jn) (hL : cs_L M K n l) (p c : Nat) (hc : c < 2 ^ 30) (ps : List Nat) (hp : ∀ e, e < n → M.1 15 0 e = nI (am_nth ps e 9)) (Q : am_P)
    (h : ∀ M', am_fg [11, 22, 23] [12] M M' → cs_L M' K n (jn_off K l (c, p, ps)) → Q none M') : X d 57 0 [some (.inr (.inl (11, 0))), some (.inl (nI p)), some (.inl (nI c)), some (.inr (.inl (15, 0))), none, none] [] M Q := by
  obtain ⟨e0, e1, hl, hK1, hK4, hs, hv, hvi, hel⟩ := id hL
  refine am_go hX [23] 60 ?_
  refine am_cc hd (cw_takes hX _ _ K n l hL c hc _ (fun ht => ?_) (fun ht1 ht2 => ?_))
  · refine am_bne1 ?_
    -- the rest, from the place where the last one stands
    have rest : ∀ st : Nat, (l.length < K → st = l.length) → (¬ l.length < K → st = K - 1) → (st < l.length → c < (am_nth l st jn_0).1) → X d 57 23 [some (.inr (.inl (11, 0))), some (.inl (nI p)), some (.inl (nI c)), some (.inr (.inl (15, 0))), some (.inl (nI st)), some (.inr (.inl (22, M.2.1 12 st)))] [] M Q := by
      intro st hst1 hst2 hst3
      have hst4 : st < 4 := by
        by_cases z : l.length < K
        · have := hst1 z; omega
        · have := hst2 z; omega
      have hstl : st ≤ l.length := by
        by_cases z : l.length < K
        · have := hst1 z; omega
        · have := hst2 z; omega
      have fin : ∀ a : Nat, a ≤ st → (a < l.length → c < (am_nth l a jn_0).1) → (∀ i, i < a → (am_nth l i jn_0).1 ≤ c) → X d 57 46 [some (.inr (.inl (11, 0))), some (.inl (nI p)), some (.inl (nI c)), some (.inr (.inl (15, 0))), some (.inl (nI a)), some (.inr (.inl (22, M.2.1 12 st)))] [] (M.1, fun f i => if f = 12 ∧ a < i ∧ i ≤ st then M.2.1 12 (i - 1) else M.2.1 f i, M.2.2) Q := by
        intro a ha hlt hle
        refine am_go hX [] 60 ?_
        refine ⟨a, by show a < 4; omega, rfl, hd, rfl, rfl, rfl, ?_⟩
        have fg : am_fg [11, 22, 23] [12] M (am_sr (am_si (am_si (am_sv (M.1, fun f i => if f = 12 ∧ a < i ∧ i ≤ st then M.2.1 12 (i - 1) else M.2.1 f i, M.2.2) 12 a (M.2.1 12 st)) 22 (M.2.1 12 st) 0 (nI p)) 22 (M.2.1 12 st) 1 (nI c)) 23 (M.2.1 12 st) (va_cpy (M.1 15 0) (M.1 23 (M.2.1 12 st)) 0 0 4)) := by
          refine ⟨rfl, fun f k hf => ?_, fun f i k hf => ?_⟩
          · have h12 : f ≠ 12 := fun z => hf (by rw [z]; simp)
            show (if f = 12 ∧ k = a then _ else if f = 12 ∧ a < k ∧ k ≤ st then _ else M.2.1 f k) = _
            rw [if_neg (fun q => h12 q.1), if_neg (fun q => h12 q.1)]
          · have h22 : f ≠ 22 := fun z => hf (by rw [z]; simp)
            have h23 : f ≠ 23 := fun z => hf (by rw [z]; simp)
            rw [am_sr_at, if_neg (fun q => h23 q.1), am_si_at, if_neg (fun q => h22 q.1), am_si_at, if_neg (fun q => h22 q.1)]; rfl
        have gv : ∀ i, (am_sv (M.1, fun f i => if f = 12 ∧ a < i ∧ i ≤ st then M.2.1 12 (i - 1) else M.2.1 f i, M.2.2) 12 a (M.2.1 12 st)).2.1 12 i = if i = a then M.2.1 12 st else if a < i ∧ i ≤ st then M.2.1 12 (i - 1) else M.2.1 12 i := by
          intro i
          rw [am_sv_at']; simp
        have g22 : ∀ q k, (am_sr (am_si (am_si (am_sv (M.1, fun f i => if f = 12 ∧ a < i ∧ i ≤ st then M.2.1 12 (i - 1) else M.2.1 f i, M.2.2) 12 a (M.2.1 12 st)) 22 (M.2.1 12 st) 0 (nI p)) 22 (M.2.1 12 st) 1 (nI c)) 23 (M.2.1 12 st) (va_cpy (M.1 15 0) (M.1 23 (M.2.1 12 st)) 0 0 4)).1 22 q k = if q = M.2.1 12 st ∧ k = 1 then nI c else if q = M.2.1 12 st ∧ k = 0 then nI p else M.1 22 q k := by
          intro q k
          rw [am_sr_at, if_neg (by omega), am_si_at, am_si_at]; simp [am_sv]
        have g23 : ∀ q e, e < 4 → (am_sr (am_si (am_si (am_sv (M.1, fun f i => if f = 12 ∧ a < i ∧ i ≤ st then M.2.1 12 (i - 1) else M.2.1 f i, M.2.2) 12 a (M.2.1 12 st)) 22 (M.2.1 12 st) 0 (nI p)) 22 (M.2.1 12 st) 1 (nI c)) 23 (M.2.1 12 st) (va_cpy (M.1 15 0) (M.1 23 (M.2.1 12 st)) 0 0 4)).1 23 q e = if q = M.2.1 12 st then M.1 15 0 e else M.1 23 q e := by
          intro q e he4
          rw [am_sr_at]
          by_cases hq : q = M.2.1 12 st
          · rw [if_pos ⟨rfl, hq⟩, if_pos hq]
            unfold va_cpy
            rw [if_pos ⟨by omega, by omega⟩]; simp
          · rw [if_neg (fun z => hq z.2), if_neg hq, am_si_at, if_neg (by omega), am_si_at, if_neg (by omega)]; rfl
        refine ⟨fun (q : M.1 11 0 1 ≤ M.1 11 0 0) => ?_, fun (q : ¬ M.1 11 0 1 ≤ M.1 11 0 0) => ?_⟩
        · rw [e0, e1] at q
          have hlK : l.length = K := by have := (nI_leI (by omega) (by omega)).mp q; omega
          refine h _ fg (cs_fin hL hn hc hp hst1 hst2 ha hle hlt ?_ e1 gv g22 g23)
          rw [if_neg (by omega), ← hlK]; exact e0
        · rw [e0, e1] at q
          have hlK : l.length < K := by
            rcases Nat.lt_or_ge l.length K with z | z
            · exact z
            · exact absurd (nI_le z (by omega)) q
          refine h _ (am_fg_si fg (by simp)) (cs_fin hL hn hc hp hst1 hst2 ha hle hlt ?_ ?_ gv (fun q k => ?_) (fun q e he4 => ?_))
          · rw [if_pos hlK, am_si_at, if_pos ⟨rfl, rfl, rfl⟩, ← nI_1, ← e0]; rfl
          · rw [am_si_at, if_neg (by omega)]; exact e1
          · rw [am_si_at, if_neg (by omega)]; exact g22 q k
          · rw [am_si_at, if_neg (by omega)]; exact g23 q e he4
      have loop : ∀ a : Nat, a ≤ st → (a < l.length → c < (am_nth l a jn_0).1) → X d 57 23 [some (.inr (.inl (11, 0))), some (.inl (nI p)), some (.inl (nI c)), some (.inr (.inl (15, 0))), some (.inl (nI a)), some (.inr (.inl (22, M.2.1 12 st)))] [] (M.1, fun f i => if f = 12 ∧ a < i ∧ i ≤ st then M.2.1 12 (i - 1) else M.2.1 f i, M.2.2) Q := by
        intro a
        induction a with
        | zero =>
          intro ha hlt
          refine am_go hX [23, 46] 60 ?_
          exact ⟨fun _ => fin 0 ha hlt (fun i hi => by omega), fun (q : ¬ nI 0 ≤ 0) => absurd (by decide) q⟩
        | succ a ih =>
          intro ha hlt
          obtain ⟨w1, -, w3, -⟩ := hel a (by omega)
          refine am_go hX [23, 46] 60 ?_
          refine ⟨fun (q : nI (a + 1) ≤ 0) => absurd q (nI_nle (by omega) (by omega)), fun _ => ?_⟩
          refine ⟨a, by show a < 4; omega, nI_pred a, ?_⟩
          have ev : (if 12 = 12 ∧ a + 1 < a ∧ a ≤ st then M.2.1 12 (a - 1) else M.2.1 12 a) = M.2.1 12 a := if_neg (by omega)
          refine ⟨fun (q : M.1 22 (if 12 = 12 ∧ a + 1 < a ∧ a ≤ st then M.2.1 12 (a - 1) else M.2.1 12 a) 1 ≤ nI c) => ?_, fun (q : ¬ M.1 22 (if 12 = 12 ∧ a + 1 < a ∧ a ≤ st then M.2.1 12 (a - 1) else M.2.1 12 a) 1 ≤ nI c) => ?_⟩
          · rw [ev, w1] at q
            have q := (nI_leI (by omega) (by omega)).mp q
            exact fin (a + 1) ha hlt (fun i hi => Nat.le_trans (hs i a (by omega) (by omega)) q)
          · rw [ev, w1] at q
            have q : c < (am_nth l a jn_0).1 := by
              rcases Nat.lt_or_ge c (am_nth l a jn_0).1 with z | z
              · exact z
              · exact absurd (nI_le z (by omega)) q
            refine ⟨a, by show a < 4; omega, nI_pred a, a + 1, by show a + 1 < 4; omega, rfl, ?_⟩
            refine (fun (z : X d 57 23 [some (.inr (.inl (11, 0))), some (.inl (nI p)), some (.inl (nI c)), some (.inr (.inl (15, 0))), some (.inl (nI (a + 1) + (-1))), some (.inr (.inl (22, M.2.1 12 st)))] [] (am_sv (M.1, fun f i => if f = 12 ∧ a + 1 < i ∧ i ≤ st then M.2.1 12 (i - 1) else M.2.1 f i, M.2.2) 12 (a + 1) (if 12 = 12 ∧ a + 1 < a ∧ a ≤ st then M.2.1 12 (a - 1) else M.2.1 12 a)) Q) => z) ?_
            rw [pk_m1, ev]
            have := ih (by omega) (fun _ => q)
            have e : am_sv (M.1, fun f i => if f = 12 ∧ a + 1 < i ∧ i ≤ st then M.2.1 12 (i - 1) else M.2.1 f i, M.2.2) 12 (a + 1) (M.2.1 12 a) = (M.1, fun f i => if f = 12 ∧ a < i ∧ i ≤ st then M.2.1 12 (i - 1) else M.2.1 f i, M.2.2) := by
              unfold am_sv
              refine congrArg (fun z => (M.1, z, M.2.2)) ?_
              funext f i
              dsimp only
              by_cases hf : f = 12
              · subst hf
                repeat' split
                all_goals first | rfl | (exfalso; omega) | (have e : i = a + 1 := by omega
                                                            subst e; rfl)
              · simp [hf]
            rw [e]; exact this
      have := loop st (Nat.le_refl st) hst3
      have e : (M.1, fun f i => if f = 12 ∧ st < i ∧ i ≤ st then M.2.1 12 (i - 1) else M.2.1 f i, M.2.2) = M := by
        refine congrArg (fun z => (M.1, z, M.2.2)) ?_
        funext f i
        rw [if_neg (by omega)]
      rw [e] at this
      exact this
    refine ⟨fun (q : M.1 11 0 1 ≤ M.1 11 0 0) => ?_, fun (q : ¬ M.1 11 0 1 ≤ M.1 11 0 0) => ?_⟩
    · rw [e0, e1] at q
      have hlK : l.length = K := by have := (nI_leI (by omega) (by omega)).mp q; omega
      have ei : M.1 11 0 0 - 1 = nI (K - 1) := by
        rw [e0, hlK]
        obtain ⟨t, rfl⟩ : ∃ t, K = t + 1 := ⟨K - 1, by omega⟩
        exact nI_pred t
      refine ⟨K - 1, by show K - 1 < 4; omega, ei, ?_⟩
      refine (fun (z : X d 57 23 [some (.inr (.inl (11, 0))), some (.inl (nI p)), some (.inl (nI c)), some (.inr (.inl (15, 0))), some (.inl (M.1 11 0 0 - 1)), some (.inr (.inl (22, M.2.1 12 (K - 1))))] [] M Q) => z) ?_
      rw [ei]
      exact rest (K - 1) (fun z => by omega) (fun _ => rfl) (fun _ => ht.resolve_left (by omega))
    · rw [e0, e1] at q
      have hlK : l.length < K := by
        rcases Nat.lt_or_ge l.length K with z | z
        · exact z
        · exact absurd (nI_le z (by omega)) q
      refine ⟨l.length, by show l.length < 4; omega, e0, ?_⟩
      refine (fun (z : X d 57 23 [some (.inr (.inl (11, 0))), some (.inl (nI p)), some (.inl (nI c)), some (.inr (.inl (15, 0))), some (.inl (M.1 11 0 0)), some (.inr (.inl (22, M.2.1 12 l.length)))] [] M Q) => z) ?_
      rw [e0]
      exact rest l.length (fun _ => rfl) (fun z => absurd hlK z) (fun z => by omega)
  · refine am_bne0 ?_
    have := h M (am_fg_rf _ _ M)
    rw [jn_off_no hs hK1 ht1 ht2] at this
    exact this hL
end
section
/-! joins: the least that they can cost; the class's dealer goes through them -/
def jl_m (T : Nat → Nat → Option Nat) (birth fals e : Nat) : Nat → Nat
  | 0 => if fals < birth then fals else birth
  | k + 1 => match T k e with
    | none => jl_m T birth fals e k
    | some t => if t < jl_m T birth fals e k then t else jl_m T birth fals e k
def jl_s (T : Nat → Nat → Option Nat) (nT birth fals : Nat) : Nat → Nat → Nat
  | 0, _ => 0
  | r + 1, e => jl_m T birth fals e nT + jl_s T nT birth fals r (e + 1)
theorem jl_m_b (T : Nat → Nat → Option Nat) (birth fals e : Nat) : ∀ n, jl_m T birth fals e n ≤ birth ∧ jl_m T birth fals e n ≤ fals ∧ ∀ k t, k < n → T k e = some t → jl_m T birth fals e n ≤ t
  | 0 => by
    refine ⟨?_, ?_, fun k t h => by omega⟩
    · unfold jl_m; split <;> omega
    · unfold jl_m; split <;> omega
  | n + 1 => by
    obtain ⟨h1, h2, h3⟩ := jl_m_b T birth fals e n
    have key : jl_m T birth fals e (n + 1) ≤ jl_m T birth fals e n ∧ ∀ t, T n e = some t → jl_m T birth fals e (n + 1) ≤ t := by
      rw [jl_m]
      cases hT : T n e with
      | none => exact ⟨Nat.le_refl _, fun t q => by cases q⟩
      | some t => dsimp only; refine ⟨by split <;> omega, fun t' q => by cases q; split <;> omega⟩
    refine ⟨by omega, by omega, fun k t hk hT => ?_⟩
    rcases Nat.lt_or_ge k n with q | q
    · have := h3 k t q hT; omega
    · have : k = n := by omega
      subst this; exact key.2 t hT
theorem jn_sub_ge (T : Nat → Nat → Option Nat) (nT miss birth fals : Nat) : ∀ (r e c u b : Nat) (tak : Nat → Bool) (pre : List Nat), ∀ x ∈ jn_sub T nT miss birth fals r e c u b tak pre, c + jl_s T nT birth fals r e + (u - r) * miss ≤ x.1
  | 0, e, c, u, b, tak, pre, x, h => by
    simp only [jn_sub, List.mem_singleton] at h
    subst h
    simp [jl_s]
  | r + 1, e, c, u, b, tak, pre, x, h => by
    obtain ⟨m1, m2, m3⟩ := jl_m_b T birth fals e nT
    have hm : (u - (r + 1)) * miss ≤ (u - r) * miss := Nat.mul_le_mul_right _ (by omega)
    simp only [jn_sub, List.mem_append, List.mem_flatMap, List.mem_range] at h
    simp only [jl_s]
    rcases h with ⟨k, hk, h⟩ | h | h
    · cases hT : T k e with
      | none => rw [hT] at h; simp at h
      | some t =>
        rw [hT] at h
        dsimp only at h
        cases htk : tak k with
        | true => rw [htk] at h; simp at h
        | false =>
          rw [htk] at h
          have := jn_sub_ge T nT miss birth fals r (e + 1) (c + t) (u - 1) b _ _ x h
          have := m3 k t hk hT
          rw [show u - 1 - r = u - (r + 1) by omega] at *
          omega
    · split at h
      · have := jn_sub_ge T nT miss birth fals r (e + 1) (c + birth) u (b + 1) _ _ x h
        omega
      · simp at h
    · have := jn_sub_ge T nT miss birth fals r (e + 1) (c + fals) u b _ _ x h
      omega
/-- how many of the first n are alive and not taken -/
def jn_cnt (lv tak : Nat → Bool) : Nat → Nat
  | 0 => 0
  | k + 1 => jn_cnt lv tak k + (if lv k = true ∧ tak k = false then 1 else 0)
theorem jn_cnt_le (lv tak : Nat → Bool) : ∀ n, jn_cnt lv tak n ≤ n
  | 0 => Nat.le_refl 0
  | n + 1 => by have := jn_cnt_le lv tak n; unfold jn_cnt; split <;> omega
theorem jn_cnt_tk (lv tak : Nat → Bool) (k : Nat) (h1 : lv k = true) (h2 : tak k = false) : ∀ n, jn_cnt lv (fun j => bif Nat.beq j k then true else tak j) n + (if k < n then 1 else 0) = jn_cnt lv tak n
  | 0 => by simp [jn_cnt]
  | n + 1 => by
    have ih := jn_cnt_tk lv tak k h1 h2 n
    by_cases hk : n = k
    · subst hk
      have hb : Nat.beq n n = true := Nat.beq_refl n
      simp only [jn_cnt, hb, cond_true, h1, h2]
      simp at ih ⊢
      omega
    · have hb : Nat.beq n k = false := by
        cases z : Nat.beq n k with
        | false => rfl
        | true => exact absurd (Nat.eq_of_beq_eq_true z) hk
      simp only [jn_cnt, hb, cond_false]
      rw [← ih]
      by_cases hkn : k < n
      · rw [if_pos hkn, if_pos (show k < n + 1 by omega)]; omega
      · rw [if_neg hkn, if_neg (show ¬ k < n + 1 by omega)]; omega
/-- the dealer's numbers for one world and one scan -/
def cs_D (M : am_M) (T : Nat → Nat → Option Nat) (lv : Nat → Bool) (nT n p miss birth fals : Nat) : Prop :=
  M.1 10 0 1 = nI miss ∧ M.1 10 0 2 = nI birth ∧ M.1 10 0 3 = nI fals ∧ M.1 10 0 5 = nI p ∧ M.1 10 0 6 = nI nT ∧ M.1 10 0 7 = nI n ∧ nT ≤ 6 ∧ n ≤ 4 ∧ miss ≤ 100000 ∧ birth ≤ 100000 ∧ fals ≤ 100000 ∧
  (∀ k e, k < nT → e < n → M.1 13 0 (4 * k + e) = match T k e with
    | none => -1
    | some t => nI t) ∧ (∀ k e t, T k e = some t → t ≤ 250000 ∧ lv k = true) ∧ ∀ e, e ≤ n → M.1 14 0 e = nI (jl_s T nT birth fals (n - e) e)
theorem cs_D_fr {M M' : am_M} {L LV : List Nat} {T : Nat → Nat → Option Nat} {lv : Nat → Bool} {nT n p miss birth fals : Nat} (h : cs_D M T lv nT n p miss birth fals) (fr : am_fg L LV M M') (h1 : 10 ∉ L) (h2 : 13 ∉ L) (h3 : 14 ∉ L) : cs_D M' T lv nT n p miss birth fals := by
  obtain ⟨a1, a2, a3, a4, a5, a6, a7, a8, a9, a10, a11, a12, a13, a14⟩ := h
  have f := fr.2.2
  exact ⟨(f _ _ _ h1).trans a1, (f _ _ _ h1).trans a2, (f _ _ _ h1).trans a3, (f _ _ _ h1).trans a4, (f _ _ _ h1).trans a5, (f _ _ _ h1).trans a6, a7, a8, a9, a10, a11, fun k e hk he => (f _ _ _ h2).trans (a12 k e hk he), a13, fun e he => (f _ _ _ h3).trans (a14 e he)⟩
theorem cs_L_fr {M M' : am_M} {L LV : List Nat} {K n : Nat} {l : List jn} (h : cs_L M K n l) (fr : am_fg L LV M M') (h1 : 11 ∉ L) (h2 : 22 ∉ L) (h3 : 23 ∉ L) (h4 : 12 ∉ LV) : cs_L M' K n l := by
  obtain ⟨e0, e1, hl, hK1, hK4, hs, hv, hvi, hel⟩ := h
  have f := fr.2.2
  have fv : ∀ i, M'.2.1 12 i = M.2.1 12 i := fun i => fr.2.1 12 i h4
  refine ⟨(f _ _ _ h1).trans e0, (f _ _ _ h1).trans e1, hl, hK1, hK4, hs, fun i hi => by rw [fv]; exact hv i hi, fun i j hi hj q => by rw [fv, fv] at q; exact hvi i j hi hj q, fun i hi => ?_⟩
  obtain ⟨w1, w2, w3, w4⟩ := hel i hi
  rw [fv]
  exact ⟨(f _ _ _ h2).trans w1, (f _ _ _ h2).trans w2, w3, fun e he => (f _ _ _ h3).trans (w4 e he)⟩
theorem cw_mayServe {X : am_X} (hX : am_Cl X) (d : Nat) (M : am_M) (hd : 1 ≤ d) (T : Nat → Nat → Option Nat) (lv : Nat → Bool) (nT n p miss birth fals K : Nat) (l : List jn) (hD : cs_D M T lv nT n p miss birth fals) (hL : cs_L M K n l) (e c u : Nat) (he : e ≤ n) (hu : u ≤ 6) (hB : c + jl_s T nT birth fals (n - e) e + (u - (n - e)) * miss < 2 ^ 30) (Q : am_P)
    (h1 : Q (some (.inl (1))) M) (h0 : l.length = K → (am_nth l (K - 1) jn_0).1 ≤ c + jl_s T nT birth fals (n - e) e + (u - (n - e)) * miss → Q (some (.inl (0))) M) : X d 53 0 [some (.inr (.inl (10, 0))), some (.inl (nI e)), some (.inl (nI c)), some (.inl (nI u)), none] [] M Q := by
  obtain ⟨a1, a2, a3, a4, a5, a6, a7, a8, a9, a10, a11, a12, a13, a14⟩ := hD
  refine am_go hX [] 30 ?_
  have em : (if (0 : Int32) < nI u - (M.1 10 0 7 - nI e) then nI u - (M.1 10 0 7 - nI e) else 0) = nI (u - (n - e)) := by
    rw [a6, pk_sub he]
    rcases Nat.lt_or_ge u (n - e) with q | q
    · have hneg : nI u - nI (n - e) < 0 := pk_sneg (by omega) q
      rw [if_neg (fun z => absurd (Int32.lt_trans hneg z) (by exact Int32.lt_irrefl)), show u - (n - e) = 0 by omega]; rfl
    · rw [pk_sub q]
      by_cases z : 0 < u - (n - e)
      · rw [if_pos (show 0 < nI (u - (n - e)) from nI_lt (a := 0) z (by omega))]
      · have : u - (n - e) = 0 := by omega
        rw [this]; rfl
  refine am_cc hd (lb_max hX _ _ _ _ _ ?_)
  rw [em]
  refine ⟨e, by show e < 5; omega, rfl, ?_⟩
  refine am_cc hd ?_
  have et : nI c + M.1 14 0 e + nI (u - (n - e)) * M.1 10 0 1 = nI (c + jl_s T nT birth fals (n - e) e + (u - (n - e)) * miss) := by
    rw [a14 e he, a1, nI_add, pk_mul, nI_add]
  refine (fun (z : X (d - 1) 56 0 [some (.inr (.inl (11, 0))), some (.inl (nI c + M.1 14 0 e + nI (u - (n - e)) * M.1 10 0 1))] [] M _) => z) ?_
  rw [et]
  exact cw_takes hX _ _ K n l hL _ hB _ (fun _ => ⟨Or.inr rfl, h1⟩) (fun q1 q2 => ⟨Or.inl rfl, h0 q1 q2⟩)
end
section
def jn_J (p : Nat) (x : Nat × List Nat) : jn := (x.1, p, x.2)
theorem jl_s_le (T : Nat → Nat → Option Nat) (nT birth fals : Nat) (hb : birth ≤ 100000) : ∀ r e, jl_s T nT birth fals r e ≤ r * 100000
  | 0, e => by simp [jl_s]
  | r + 1, e => by
    have := jl_s_le T nT birth fals hb r (e + 1)
    have := (jl_m_b T birth fals e nT).1
    simp only [jl_s]; omega
theorem am_nth_snoc (pre : List Nat) (k i : Nat) : am_nth (pre ++ [k]) i 9 = if i < pre.length then am_nth pre i 9 else if i = pre.length then k else 9 := by
  rw [am_nth_app]
  split
  · rfl
  · split
    · rename_i h1 h2; subst h2; simp [am_nth]
    · rename_i h1 h2
      rw [am_nth_out (by simp; omega)]
set_option maxHeartbeats 2000000 in
theorem cw_dealFrom {X : am_X} (hX : am_Cl X) (T : Nat → Nat → Option Nat) (lv : Nat → Bool) (nT n p miss birth fals K : Nat) : ∀ (r d : Nat), r + 2 ≤ d → ∀ (M : am_M) (l : List jn) (e c u b : Nat) (tak : Nat → Bool) (pre : List Nat), cs_D M T lv nT n p miss birth fals → cs_L M K n l → e + r = n → pre.length = e → u = jn_cnt lv tak nT → b ≤ e → c + r * 250000 + u * 100000 < 2 ^ 30 →
    (∀ k, k < 6 → M.1 16 0 k = if tak k = true then 1 else 0) → (∀ i, i < e → M.1 15 0 i = nI (am_nth pre i 9)) → ∀ (Q : am_P),
    (∀ M', am_fg [11, 15, 16, 22, 23] [12] M M' → cs_L M' K n (((jn_sub T nT miss birth fals r e c u b tak pre).map (jn_J p)).foldl (jn_off K) l) → (∀ k, k < 6 → M'.1 16 0 k = M.1 16 0 k) → (∀ i, i < e → M'.1 15 0 i = M.1 15 0 i) → Q none M') →
    X d 54 0 [some (.inr (.inl (10, 0))), some (.inl (nI e)), some (.inl (nI c)), some (.inl (nI u)), some (.inl (nI b)), none, none] [] M Q := by
  intro r
  induction r with
  | zero =>
    intro d hd M l e c u b tak pre hD hL her hpl hu hbe hB htk hpk Q h
    obtain ⟨a1, a2, a3, a4, a5, a6, a7, a8, a9, a10, a11, a12, a13, a14⟩ := id hD
    have hen : e = n := by omega
    subst hen
    refine am_go hX [] 60 ?_
    refine ⟨fun _ => ?_, fun (q : ¬ M.1 10 0 7 ≤ nI e) => absurd (by rw [a6]; exact nI_le (Nat.le_refl _) (by omega)) q⟩
    refine am_cc (by omega) ?_
    have hu6 : u ≤ 6 := by have := jn_cnt_le lv tak nT; omega
    have hum : u * miss ≤ u * 100000 := Nat.mul_le_mul_left _ a9
    have et : nI c + nI u * M.1 10 0 1 = nI (c + u * miss) := by rw [a1, pk_mul, nI_add]
    refine (fun (z : X (d - 1) 57 0 [some (.inr (.inl (11, 0))), some (.inl (M.1 10 0 5)), some (.inl (nI c + nI u * M.1 10 0 1)), some (.inr (.inl (15, 0))), none, none] [] M _) => z) ?_
    rw [et, a4]
    refine cw_offer hX _ _ (by omega) K e a8 l hL p (c + u * miss) (by omega) pre hpk _ (fun M' fr hL' => ?_)
    exact h M' (am_fg_mono fr (by simp) (by simp)) hL' (fun k hk => fr.2.2 16 0 k (by simp)) (fun i hi => fr.2.2 15 0 i (by simp))
  | succ r ih =>
    intro d hd M l e c u b tak pre hD hL her hpl hu hbe hB htk hpk Q h
    obtain ⟨a1, a2, a3, a4, a5, a6, a7, a8, a9, a10, a11, a12, a13, a14⟩ := id hD
    have hu6 : u ≤ 6 := by have := jn_cnt_le lv tak nT; omega
    have hls := jl_s_le T nT birth fals a10 (n - e) e
    have hum : (u - (n - e)) * miss ≤ u * 100000 := Nat.mul_le_mul (by omega) a9
    have hne : n - e = r + 1 := by omega
    have hge := jn_sub_ge T nT miss birth fals (r + 1) e c u b tak pre
    refine am_go hX [30] 60 ?_
    refine ⟨fun (q : M.1 10 0 7 ≤ nI e) => absurd q (by rw [a6]; exact nI_ge (by omega) (by omega)), fun _ => ⟨fun _ => ?_, fun (q : ¬ nI e < 4) => absurd (nI_lt (b := 4) (by omega) (by decide)) q⟩⟩
    refine am_cc (by omega) (cw_mayServe hX _ _ (by omega) T lv nT n p miss birth fals K l hD hL e c u (by omega) hu6 (by rw [hne] at hls hum ⊢; omega) _ ?_ (fun q1 q2 => ?_))
    · refine am_bne1 ?_
      -- the part that each track adds
      generalize hf : (fun k => match T k e with
        | none => []
        | some t => bif tak k then [] else jn_sub T nT miss birth fals r (e + 1) (c + t) (u - 1) b (fun j => bif Nat.beq j k then true else tak j) (pre ++ [k])) = f
      have hsub : jn_sub T nT miss birth fals (r + 1) e c u b tak pre = (List.range nT).flatMap f ++ ((if nT + b < 6 then jn_sub T nT miss birth fals r (e + 1) (c + birth) u (b + 1) tak (pre ++ [6]) else []) ++ jn_sub T nT miss birth fals r (e + 1) (c + fals) u b tak (pre ++ [7])) := by
        rw [← hf]; rfl
      -- behind the tracks
      have last : ∀ (M' : am_M) (l' : List jn), am_fg [11, 15, 16, 22, 23] [12] M M' → cs_L M' K n l' → (∀ k, k < 6 → M'.1 16 0 k = M.1 16 0 k) → (∀ i, i < e → M'.1 15 0 i = M.1 15 0 i) →
          ((jn_sub T nT miss birth fals (r + 1) e c u b tak pre).map (jn_J p)).foldl (jn_off K) l = ((jn_sub T nT miss birth fals r (e + 1) (c + fals) u b tak (pre ++ [7])).map (jn_J p)).foldl (jn_off K) l' → ∀ z1 z2, X d 54 104 [some (.inr (.inl (10, 0))), some (.inl (nI e)), some (.inl (nI c)), some (.inl (nI u)), some (.inl (nI b)), z1, z2] [] M' Q := by
        intro M' l' fr hL' ht hp heq z1 z2
        refine am_go hX [] 60 ?_
        refine ⟨e, by show e < 4; omega, rfl, am_cc (by omega) ?_⟩
        have e3 : M'.1 10 0 3 = nI fals := (fr.2.2 10 0 3 (by simp)).trans a3
        refine (fun (z : X (d - 1) 54 0 [some (.inr (.inl (10, 0))), some (.inl (nI e + 1)), some (.inl (nI c + M'.1 10 0 3)), some (.inl (nI u)), some (.inl (nI b)), none, none] [] (am_si M' 15 0 e 7) _) => z) ?_
        rw [e3, nI_1, nI_add]
        have fr1 : am_fg [15] [] M' (am_si M' 15 0 e 7) := am_fg_si (am_fg_rf _ _ _) (by simp)
        refine ih (d - 1) (by omega) _ l' (e + 1) (c + fals) u b tak (pre ++ [7]) (cs_D_fr (cs_D_fr hD fr (by simp) (by simp) (by simp)) fr1 (by simp) (by simp) (by simp)) (cs_L_fr hL' fr1 (by simp) (by simp) (by simp) (by simp)) (by omega) (by simp; omega) hu (by omega) (by omega) (fun k hk => ?_) (fun i hi => ?_) _ (fun M2 fr2 hL2 ht2 hp2 => ?_)
        · rw [fr1.2.2 16 0 k (by simp), ht k hk]; exact htk k hk
        · rw [am_nth_snoc, am_si_at]
          by_cases z : i = e
          · rw [if_pos ⟨rfl, rfl, z⟩, if_neg (by omega), if_pos (by omega)]; rfl
          · rw [if_neg (fun q => z q.2.2), if_pos (by omega), hp i (by omega)]; exact hpk i (by omega)
        · rw [← heq] at hL2
          refine h M2 (am_fg_tr fr (am_fg_tr (am_fg_mono fr1 (by simp) (by simp)) fr2)) hL2 (fun k hk => ?_) (fun i hi => ?_)
          · rw [ht2 k hk, fr1.2.2 16 0 k (by simp)]; exact ht k hk
          · rw [hp2 i (by omega), am_si_at, if_neg (by omega)]; exact hp i hi
      have mid : ∀ (M' : am_M) (l' : List jn), am_fg [11, 15, 16, 22, 23] [12] M M' → cs_L M' K n l' → (∀ k, k < 6 → M'.1 16 0 k = M.1 16 0 k) → (∀ i, i < e → M'.1 15 0 i = M.1 15 0 i) →
          l' = (((List.range nT).flatMap f).map (jn_J p)).foldl (jn_off K) l → ∀ z1 z2, X d 54 80 [some (.inr (.inl (10, 0))), some (.inl (nI e)), some (.inl (nI c)), some (.inl (nI u)), some (.inl (nI b)), z1, z2] [] M' Q := by
        intro M' l' fr hL' ht hp heq z1 z2
        have e6 : M'.1 10 0 6 = nI nT := (fr.2.2 10 0 6 (by simp)).trans a5
        have e2 : M'.1 10 0 2 = nI birth := (fr.2.2 10 0 2 (by simp)).trans a2
        have fr1 : am_fg [15] [] M' (am_si M' 15 0 e 6) := am_fg_si (am_fg_rf _ _ _) (by simp)
        refine am_go hX [104] 60 ?_
        refine ⟨fun (q : (6 : Int32) ≤ M'.1 10 0 6 + nI b) => ?_, fun (q : ¬ (6 : Int32) ≤ M'.1 10 0 6 + nI b) => ?_⟩
        · rw [e6, nI_add] at q
          have q := (nI_leI (a := 6) (by decide) (by omega)).mp q
          refine last M' l' fr hL' ht hp ?_ z1 z2
          rw [hsub, if_neg (by omega), List.nil_append, List.map_append, List.foldl_append, ← heq]
        · rw [e6, nI_add] at q
          have q : nT + b < 6 := by
            rcases Nat.lt_or_ge (nT + b) 6 with z | z
            · exact z
            · exact absurd (nI_le (a := 6) z (by omega)) q
          refine ⟨e, by show e < 4; omega, rfl, am_cc (by omega) ?_⟩
          refine (fun (z : X (d - 1) 54 0 [some (.inr (.inl (10, 0))), some (.inl (nI e + 1)), some (.inl (nI c + M'.1 10 0 2)), some (.inl (nI u)), some (.inl (nI b + 1)), none, none] [] (am_si M' 15 0 e 6) _) => z) ?_
          rw [e2, nI_1, nI_1, nI_add]
          refine ih (d - 1) (by omega) _ l' (e + 1) (c + birth) u (b + 1) tak (pre ++ [6]) (cs_D_fr (cs_D_fr hD fr (by simp) (by simp) (by simp)) fr1 (by simp) (by simp) (by simp)) (cs_L_fr hL' fr1 (by simp) (by simp) (by simp) (by simp)) (by omega) (by simp; omega) hu (by omega) (by omega) (fun k hk => ?_) (fun i hi => ?_) _ (fun M2 fr2 hL2 ht2 hp2 => ?_)
          · rw [fr1.2.2 16 0 k (by simp), ht k hk]; exact htk k hk
          · rw [am_nth_snoc, am_si_at]
            by_cases z : i = e
            · rw [if_pos ⟨rfl, rfl, z⟩, if_neg (by omega), if_pos (by omega)]; rfl
            · rw [if_neg (fun q => z q.2.2), if_pos (by omega), hp i (by omega)]; exact hpk i (by omega)
          · refine last M2 _ (am_fg_tr fr (am_fg_tr (am_fg_mono fr1 (by simp) (by simp)) fr2)) hL2 (fun k hk => ?_) (fun i hi => ?_) ?_ z1 z2
            · rw [ht2 k hk, fr1.2.2 16 0 k (by simp)]; exact ht k hk
            · rw [hp2 i (by omega), am_si_at, if_neg (by omega)]; exact hp i hi
            · rw [hsub, if_pos q, List.map_append, List.foldl_append, List.map_append, List.foldl_append, ← heq]
      have loop : ∀ (t k : Nat), k + t = nT → ∀ (M' : am_M) (l' : List jn), am_fg [11, 15, 16, 22, 23] [12] M M' → cs_L M' K n l' → (∀ k, k < 6 → M'.1 16 0 k = M.1 16 0 k) → (∀ i, i < e → M'.1 15 0 i = M.1 15 0 i) →
          l' = (((List.range k).flatMap f).map (jn_J p)).foldl (jn_off K) l → ∀ z2, X d 54 30 [some (.inr (.inl (10, 0))), some (.inl (nI e)), some (.inl (nI c)), some (.inl (nI u)), some (.inl (nI b)), some (.inl (nI k)), z2] [] M' Q := by
        intro t
        induction t with
        | zero =>
          intro k hk M' l' fr hL' ht hp heq z2
          have hk : k = nT := by omega
          subst hk
          have e6 : M'.1 10 0 6 = nI k := (fr.2.2 10 0 6 (by simp)).trans a5
          refine am_go hX [30, 80] 60 ?_
          exact ⟨fun _ => mid M' l' fr hL' ht hp heq _ _, fun (q : ¬ M'.1 10 0 6 ≤ nI k) => absurd (by rw [e6]; exact nI_le (Nat.le_refl _) (by omega)) q⟩
        | succ t iht =>
          intro k hk M' l' fr hL' ht hp heq z2
          have e6 : M'.1 10 0 6 = nI nT := (fr.2.2 10 0 6 (by simp)).trans a5
          have et : M'.1 13 0 (4 * k + e) = _ := (fr.2.2 13 0 (4 * k + e) (by simp)).trans (a12 k e (by omega) (by omega))
          have ix : 4 * nI k + nI e = nI (4 * k + e) := by rw [show (4 : Int32) = nI 4 from rfl, pk_mul, nI_add]
          have hflat : (List.range (k + 1)).flatMap f = (List.range k).flatMap f ++ f k := by rw [List.range_succ, List.flatMap_append]; simp
          refine am_go hX [30, 78] 60 ?_
          refine ⟨fun (q : M'.1 10 0 6 ≤ nI k) => absurd q (by rw [e6]; exact nI_ge (by omega) (by omega)), fun _ => ?_⟩
          refine ⟨4 * k + e, by show 4 * k + e < 24; omega, ix, ?_⟩
          have nxt : ∀ (M2 : am_M) (l2 : List jn), am_fg [11, 15, 16, 22, 23] [12] M M2 → cs_L M2 K n l2 → (∀ k, k < 6 → M2.1 16 0 k = M.1 16 0 k) → (∀ i, i < e → M2.1 15 0 i = M.1 15 0 i) → l2 = ((f k).map (jn_J p)).foldl (jn_off K) l' → ∀ z, X d 54 78 [some (.inr (.inl (10, 0))), some (.inl (nI e)), some (.inl (nI c)), some (.inl (nI u)), some (.inl (nI b)), some (.inl (nI k)), z] [] M2 Q := by
            intro M2 l2 fr2 hL2 ht2 hp2 heq2 z
            refine am_go hX [30] 60 ?_
            refine (fun (w : X d 54 30 [some (.inr (.inl (10, 0))), some (.inl (nI e)), some (.inl (nI c)), some (.inl (nI u)), some (.inl (nI b)), some (.inl (nI k + 1)), z] [] M2 Q) => w) ?_
            rw [nI_1]
            refine iht (k + 1) (by omega) M2 l2 fr2 hL2 ht2 hp2 ?_ z
            rw [hflat, List.map_append, List.foldl_append, ← heq]; exact heq2
          have hfk : f k = match T k e with
            | none => []
            | some t => bif tak k then [] else jn_sub T nT miss birth fals r (e + 1) (c + t) (u - 1) b (fun j => bif Nat.beq j k then true else tak j) (pre ++ [k]) := by rw [← hf]
          cases hT : T k e with
          | none =>
            rw [hT] at et hfk
            dsimp only at et hfk
            refine ⟨fun _ => nxt M' l' fr hL' ht hp (by rw [hfk]; rfl) _, fun (q : ¬ M'.1 13 0 (4 * k + e) = -1) => absurd et q⟩
          | some tl =>
            rw [hT] at et hfk
            dsimp only at et hfk
            obtain ⟨tl1, tl2⟩ := a13 k e tl hT
            refine ⟨fun (q : M'.1 13 0 (4 * k + e) = -1) => ?_, fun _ => ?_⟩
            · rw [et] at q
              have h1 : (nI tl).toInt = (-1 : Int32).toInt := by rw [q]
              rw [nI_toInt (by omega)] at h1
              have h2 : (-1 : Int32).toInt = -1 := by decide
              omega
            · have htkk : M'.1 16 0 k = if tak k = true then 1 else 0 := (ht k (by omega)).trans (htk k (by omega))
              refine ⟨k, by show k < 6; omega, rfl, ?_⟩
              cases htt : tak k with
              | true =>
                rw [htt] at htkk hfk
                refine ⟨fun _ => nxt M' l' fr hL' ht hp (by rw [hfk]; rfl) _, fun (q : ¬ ¬ M'.1 16 0 k = 0) => ?_⟩
                rw [htkk] at q
                exact absurd (by decide) q
              | false =>
                rw [htt] at htkk hfk
                refine ⟨fun (q : ¬ M'.1 16 0 k = 0) => absurd (by rw [htkk]; rfl) q, fun _ => ?_⟩
                refine ⟨k, by show k < 6; omega, rfl, Or.inr rfl, e, by show e < 4; omega, rfl, am_cc (by omega) ?_⟩
                have hcnt := jn_cnt_tk lv tak k tl2 htt nT
                rw [if_pos (by omega)] at hcnt
                have hu1 : 1 ≤ u := by omega
                have eu : nI u - 1 = nI (u - 1) := by
                  obtain ⟨v, rfl⟩ : ∃ v, u = v + 1 := ⟨u - 1, by omega⟩
                  exact nI_pred v
                refine (fun (z : X (d - 1) 54 0 [some (.inr (.inl (10, 0))), some (.inl (nI e + 1)), some (.inl (nI c + M'.1 13 0 (4 * k + e))), some (.inl (nI u - 1)), some (.inl (nI b)), none, none] [] (am_si (am_si M' 16 0 k 1) 15 0 e (nI k)) _) => z) ?_
                rw [et, nI_1, nI_add, eu]
                have fr1 : am_fg [15, 16] [] M' (am_si (am_si M' 16 0 k 1) 15 0 e (nI k)) := am_fg_si (am_fg_si (am_fg_rf _ _ _) (by simp)) (by simp)
                refine ih (d - 1) (by omega) _ l' (e + 1) (c + tl) (u - 1) b (fun j => bif Nat.beq j k then true else tak j) (pre ++ [k]) (cs_D_fr (cs_D_fr hD fr (by simp) (by simp) (by simp)) fr1 (by simp) (by simp) (by simp)) (cs_L_fr hL' fr1 (by simp) (by simp) (by simp) (by simp)) (by omega) (by simp; omega) (by omega) (by omega) (by omega) (fun j hj => ?_) (fun i hi => ?_) _ (fun M2 fr2 hL2 ht2 hp2 => ?_)
                · rw [am_si_at, if_neg (by omega), am_si_at]
                  by_cases z : j = k
                  · subst z; rw [if_pos ⟨rfl, rfl, rfl⟩, Nat.beq_refl]; rfl
                  · rw [if_neg (fun q => z q.2.2)]
                    have hb : Nat.beq j k = false := by
                      cases w : Nat.beq j k with
                      | false => rfl
                      | true => exact absurd (Nat.eq_of_beq_eq_true w) z
                    rw [hb, ht j hj]; exact htk j hj
                · rw [am_nth_snoc, am_si_at]
                  by_cases z : i = e
                  · rw [if_pos ⟨rfl, rfl, z⟩, if_neg (by omega), if_pos (by omega)]
                  · rw [if_neg (fun q => z q.2.2), if_pos (by omega), am_si_at, if_neg (by omega), hp i (by omega)]; exact hpk i (by omega)
                · refine ⟨k, by show k < 6; omega, rfl, Or.inl rfl, ?_⟩
                  have fr3 : am_fg [11, 15, 16, 22, 23] [12] M (am_si M2 16 0 k 0) := am_fg_si (am_fg_tr fr (am_fg_tr (am_fg_mono fr1 (by simp) (by simp)) fr2)) (by simp)
                  have fr4 : am_fg [16] [] M2 (am_si M2 16 0 k 0) := am_fg_si (am_fg_rf _ _ _) (by simp)
                  refine nxt (am_si M2 16 0 k 0) _ fr3 (cs_L_fr hL2 fr4 (by simp) (by simp) (by simp) (by simp)) (fun j hj => ?_) (fun i hi => ?_) (by rw [hfk]; rfl) _
                  · rw [am_si_at]
                    by_cases z : j = k
                    · subst z; rw [if_pos ⟨rfl, rfl, rfl⟩, ← ht j hj, htkk]; rfl
                    · rw [if_neg (fun q => z q.2.2), ht2 j hj, am_si_at, if_neg (by omega), am_si_at, if_neg (fun q => z q.2.2)]; exact ht j hj
                  · rw [am_si_at, if_neg (by omega), hp2 i (by omega), am_si_at, if_neg (by omega), am_si_at, if_neg (by omega)]; exact hp i hi
      exact loop nT 0 (by omega) M l (am_fg_rf _ _ _) hL (fun _ _ => rfl) (fun _ _ => rfl) rfl _
    · refine am_bne0 ?_
      have hno := jn_fold_no hL.2.2.2.2.2.1 hL.2.2.2.1 q1 ((jn_sub T nT miss birth fals (r + 1) e c u b tak pre).map (jn_J p)) (fun x hx => by
        obtain ⟨y, hy, rfl⟩ := List.mem_map.mp hx
        have := hge y hy
        rw [hne] at q2
        exact Nat.le_trans q2 this)
      refine h M (am_fg_rf _ _ _) ?_ (fun _ _ => rfl) (fun _ _ => rfl)
      rw [hno]; exact hL
end
section
/-! ints and longs that stay in their range -/
theorem iz_add {a b : Int32} (h1 : -2147483648 ≤ a.toInt + b.toInt) (h2 : a.toInt + b.toInt < 2147483648) : (a + b).toInt = a.toInt + b.toInt := by
  rw [Int32.toInt_add, Int.bmod_def]; split <;> omega
theorem iz_sub {a b : Int32} (h1 : -2147483648 ≤ a.toInt - b.toInt) (h2 : a.toInt - b.toInt < 2147483648) : (a - b).toInt = a.toInt - b.toInt := by
  rw [Int32.toInt_sub, Int.bmod_def]; split <;> omega
theorem iz_mul {a b : Int32} (h1 : -2147483648 ≤ a.toInt * b.toInt) (h2 : a.toInt * b.toInt < 2147483648) : (a * b).toInt = a.toInt * b.toInt := by
  rw [Int32.toInt_mul, Int.bmod_def]; split <;> omega
theorem lz_add {a b : Int64} (h1 : -9223372036854775808 ≤ a.toInt + b.toInt) (h2 : a.toInt + b.toInt < 9223372036854775808) : (a + b).toInt = a.toInt + b.toInt := by
  rw [Int64.toInt_add, Int.bmod_def]; split <;> omega
theorem lz_sub {a b : Int64} (h1 : -9223372036854775808 ≤ a.toInt - b.toInt) (h2 : a.toInt - b.toInt < 9223372036854775808) : (a - b).toInt = a.toInt - b.toInt := by
  rw [Int64.toInt_sub, Int.bmod_def]; split <;> omega
theorem lz_mul {a b : Int64} (h1 : -9223372036854775808 ≤ a.toInt * b.toInt) (h2 : a.toInt * b.toInt < 9223372036854775808) : (a * b).toInt = a.toInt * b.toInt := by
  rw [Int64.toInt_mul, Int.bmod_def]; split <;> omega
theorem lz_of (a : Int32) : a.toInt64.toInt = a.toInt := Int32.toInt_toInt64 a
theorem lz_ext {a b : Int64} (h : a.toInt = b.toInt) : a = b := Int64.toInt_inj.mp h
theorem iz_ext {a b : Int32} (h : a.toInt = b.toInt) : a = b := Int32.toInt_inj.mp h
theorem lz_to {a : Int64} {n : Nat} (h : a.toInt = n) (hn : n < 2147483648) : a.toInt32 = nI n := by
  apply iz_ext
  rw [Int64.toInt_toInt32, h, nI_toInt (by omega), Int.bmod_def]
  split <;> omega
theorem iz_nI {x : Int32} {n : Nat} (h : x.toInt = n) (hn : n < 2147483648) : x = nI n := by
  apply iz_ext; rw [h, nI_toInt hn]
theorem iz_sq {a b : Int} (h1 : -b ≤ a) (h2 : a ≤ b) : 0 ≤ a * a ∧ a * a ≤ b * b := by
  have hb : 0 ≤ b := by omega
  rcases Int.le_total 0 a with q | q
  · exact ⟨Int.mul_nonneg q q, Int.mul_le_mul h2 h2 q hb⟩
  · have e : a * a = (-a) * (-a) := by rw [Int.neg_mul_neg]
    rw [e]
    exact ⟨Int.mul_nonneg (by omega) (by omega), Int.mul_le_mul (by omega) (by omega) (by omega) hb⟩
theorem iz_bd {a b x y : Int} (h1 : -x ≤ a) (h2 : a ≤ x) (h3 : -y ≤ b) (h4 : b ≤ y) : -(x * y) ≤ a * b ∧ a * b ≤ x * y := by
  have hx : 0 ≤ x := by omega
  have hy : 0 ≤ y := by omega
  rcases Int.le_total 0 a with q | q <;> rcases Int.le_total 0 b with w | w
  · have p := Int.mul_nonneg q w
    have p2 := Int.mul_le_mul h2 h4 w hx
    have p3 := Int.mul_nonneg hx hy
    omega
  · have e : a * b = -(a * (-b)) := by rw [Int.mul_neg, Int.neg_neg]
    have p := Int.mul_nonneg q (show 0 ≤ -b by omega)
    have p2 := Int.mul_le_mul h2 (show -b ≤ y by omega) (by omega) hx
    have p3 := Int.mul_nonneg hx hy
    omega
  · have e : a * b = -((-a) * b) := by rw [Int.neg_mul, Int.neg_neg]
    have p := Int.mul_nonneg (show 0 ≤ -a by omega) w
    have p2 := Int.mul_le_mul (show -a ≤ x by omega) h4 w hx
    have p3 := Int.mul_nonneg hx hy
    omega
  · have e : a * b = (-a) * (-b) := by rw [Int.neg_mul_neg]
    have p := Int.mul_nonneg (show 0 ≤ -a by omega) (show 0 ≤ -b by omega)
    have p2 := Int.mul_le_mul (show -a ≤ x by omega) (show -b ≤ y by omega) (by omega) hx
    have p3 := Int.mul_nonneg hx hy
    omega
/-- what is known of a track's fields -/
def tk_ok (t : Nat → Int32) : Prop := ta_in (t 0) 1050 ∧ ta_in (t 1) 1050 ∧ ta_in (t 2) 2100 ∧ ta_in (t 3) 2100 ∧ (0 ≤ (t 4).toInt ∧ (t 4).toInt ≤ 999) ∧ (0 ≤ (t 7).toInt ∧ (t 7).toInt ≤ 9) ∧ (t 8 = 0 ∨ t 8 = 1)
theorem tk_f_bd {τ : ta} {t : Nat → Int32} (ht : tk_ok t) {m : Int} (h0 : 0 ≤ m) (h1 : m ≤ 999) {c : Nat} (hc : c = 0 ∨ c = 1) : -2098950 ≤ tk_f τ t m c ∧ tk_f τ t m c ≤ 2098950 := by
  obtain ⟨t0, t1, t2, t3, t4, -, -⟩ := ht
  have hp : -2097900 ≤ tk_ah (ta_kd τ (t 7).toNatClampNeg) (m - (t 4).toInt) * (t (c + 2)).toInt ∧ tk_ah (ta_kd τ (t 7).toNatClampNeg) (m - (t 4).toInt) * (t (c + 2)).toInt ≤ 2097900 := by
    have ha : -999 ≤ tk_ah (ta_kd τ (t 7).toNatClampNeg) (m - (t 4).toInt) ∧ tk_ah (ta_kd τ (t 7).toNatClampNeg) (m - (t 4).toInt) ≤ 999 := by
      unfold tk_ah; split
      · omega
      · split <;> omega
    have hu : -2100 ≤ (t (c + 2)).toInt ∧ (t (c + 2)).toInt ≤ 2100 := by rcases hc with rfl | rfl; exact t2; exact t3
    have := iz_bd ha.1 ha.2 hu.1 hu.2
    omega
  unfold tk_f
  have hx : -1050 ≤ (t c).toInt ∧ (t c).toInt ≤ 1050 := by rcases hc with rfl | rfl; exact t0; exact t1
  omega
theorem ck_ah_ok {k m l : Int32} {kd : Nat} (hk : k = nI kd) (hkd : kd ≤ 2) (hm : 0 ≤ m.toInt ∧ m.toInt ≤ 999) (hl : 0 ≤ l.toInt ∧ l.toInt ≤ 999) : (ck_ah k m l).toInt = tk_ah kd (m.toInt - l.toInt) := by
  subst hk
  unfold ck_ah tk_ah
  have e1 : nI kd = 1 ↔ kd = 1 := nI_eq (a := kd) (b := 1) (by omega) (by decide)
  have e2 : nI kd = 2 ↔ kd = 2 := nI_eq (a := kd) (b := 2) (by omega) (by decide)
  by_cases h1 : kd = 1
  · rw [if_pos (e1.mpr h1), if_pos h1]; rfl
  · rw [if_neg (fun z => h1 (e1.mp z)), if_neg h1]
    by_cases h2 : kd = 2
    · rw [if_pos (e2.mpr h2), if_pos h2, iz_sub (by omega) (by omega)]; omega
    · rw [if_neg (fun z => h2 (e2.mp z)), if_neg h2, iz_sub (by omega) (by omega)]
/-- the class's foretold place, in ints, is the foretold place -/
theorem ck_f_ok {τ : ta} {t : Nat → Int32} (ht : tk_ok t) (hk : ∀ k, k < 10 → ta_kd τ k ≤ 2) {m : Int32} (h0 : 0 ≤ m.toInt) (h1 : m.toInt ≤ 999) {c : Nat} (hc : c = 0 ∨ c = 1) : (t c + ck_ah (nI (ta_kd τ (t 7).toNatClampNeg)) m (t 4) * t (c + 2)).toInt = tk_f τ t m.toInt c := by
  have hb := tk_f_bd (τ := τ) ht h0 h1 hc
  obtain ⟨t0, t1, t2, t3, t4, t7, -⟩ := ht
  have h7 : (t 7).toNatClampNeg < 10 := by
    have : (t 7).toNatClampNeg = (t 7).toInt.toNat := rfl
    omega
  have ea := ck_ah_ok (k := nI (ta_kd τ (t 7).toNatClampNeg)) rfl (hk _ h7) ⟨h0, h1⟩ t4
  have ha : -999 ≤ tk_ah (ta_kd τ (t 7).toNatClampNeg) (m.toInt - (t 4).toInt) ∧ tk_ah (ta_kd τ (t 7).toNatClampNeg) (m.toInt - (t 4).toInt) ≤ 999 := by
    unfold tk_ah; split
    · omega
    · split <;> omega
  have hu : -2100 ≤ (t (c + 2)).toInt ∧ (t (c + 2)).toInt ≤ 2100 := by rcases hc with rfl | rfl; exact t2; exact t3
  have hx : -1050 ≤ (t c).toInt ∧ (t c).toInt ≤ 1050 := by rcases hc with rfl | rfl; exact t0; exact t1
  have hp := iz_bd ha.1 ha.2 hu.1 hu.2
  have em : (ck_ah (nI (ta_kd τ (t 7).toNatClampNeg)) m (t 4) * t (c + 2)).toInt = tk_ah (ta_kd τ (t 7).toNatClampNeg) (m.toInt - (t 4).toInt) * (t (c + 2)).toInt := by
    rw [iz_mul (by rw [ea]; omega) (by rw [ea]; omega), ea]
  rw [iz_add (by rw [em]; omega) (by rw [em]; omega), em]
  rfl
/-- the class's toll of two differences -/
def ck_toll (g dx dy : Int64) : Int32 := if 0 < lg_cmp (dx * dx + dy * dy) g then -1 else (dx * dx + dy * dy).toInt32
theorem cw_toll {X : am_X} (hX : am_Cl X) (d : Nat) (M : am_M) (dx dy : Int64) (Q : am_P) (h : Q (some (.inl (ck_toll M.2.2 dx dy))) M) : X d 51 0 [some (.inr (.inl (10, 0))), some (.inr (.inr (dx))), none, some (.inr (.inr (dy))), none, none, none] [] M Q := by
  refine am_go hX [] 40 ?_
  refine ⟨fun (c : 0 < lg_cmp (dx * dx + dy * dy) M.2.2) => ?_, fun (c : ¬ 0 < lg_cmp (dx * dx + dy * dy) M.2.2) => ?_⟩
  · rw [ck_toll, if_pos c] at h; exact h
  · rw [ck_toll, if_neg c] at h; exact h
theorem ck_toll_ok {g dx dy : Int64} {gate : Nat} (hg : g.toInt = (gate * gate : Nat)) (hgt : gate ≤ 500) {x y : Int} (hx : dx.toInt = x) (hy : dy.toInt = y) (bx : -2100000 ≤ x ∧ x ≤ 2100000) (by_ : -2100000 ≤ y ∧ y ≤ 2100000) :
    ck_toll g dx dy = if (x * x + y * y).toNat ≤ gate * gate then nI (x * x + y * y).toNat else -1 := by
  have sx := iz_sq bx.1 bx.2
  have sy := iz_sq by_.1 by_.2
  have ex : (dx * dx).toInt = x * x := by rw [lz_mul (by rw [hx]; omega) (by rw [hx]; omega), hx]
  have ey : (dy * dy).toInt = y * y := by rw [lz_mul (by rw [hy]; omega) (by rw [hy]; omega), hy]
  have es : (dx * dx + dy * dy).toInt = x * x + y * y := by rw [lz_add (by rw [ex, ey]; omega) (by rw [ex, ey]; omega), ex, ey]
  unfold ck_toll
  have hgg : gate * gate ≤ 500 * 500 := Nat.mul_le_mul hgt hgt
  by_cases c : (x * x + y * y).toNat ≤ gate * gate
  · rw [if_pos c, if_neg]
    · refine lz_to ?_ (by omega)
      rw [es]; omega
    · rw [lg_cmp_gt, Int64.lt_iff_toInt_lt, es, hg]; omega
  · rw [if_neg c, if_pos]
    rw [lg_cmp_gt, Int64.lt_iff_toInt_lt, es, hg]; omega
end
section
/-! what was told, as the class's cells hold it; a world's cells; tolls -/
def rc_T (M : am_M) (τ : ta) : Prop :=
  M.1 1 0 2 = nI (ta_n τ) ∧ (∀ w, w < 3 → M.1 2 0 w = ta_sa τ w ∧ M.1 3 0 w = ta_sb τ w) ∧ (∀ i, i < 13 → M.2.1 4 i < 13) ∧ (∀ i j, i < 13 → j < 13 → M.2.1 4 i = M.2.1 4 j → i = j) ∧
  (∀ s, s < ta_n τ → M.1 18 (M.2.1 4 s) 0 = nI (ta_wt τ s) ∧ M.1 18 (M.2.1 4 s) 1 = nI (ta_mo τ s) ∧ M.1 18 (M.2.1 4 s) 2 = nI (ta_dn τ s) ∧ ∀ e, e < ta_dn τ s → M.1 19 (M.2.1 4 s) e = ta_dx τ s e ∧ M.1 20 (M.2.1 4 s) e = ta_dy τ s e ∧ M.1 21 (M.2.1 4 s) e = nI (ta_dm τ s e)) ∧
  (∀ k, k < 10 → M.1 7 0 k = nI (ta_kd τ k)) ∧ ∀ k, k < 6 → M.1 6 0 k = nI (ta_ru τ k)
theorem rc_T_fr {M M' : am_M} {L LV : List Nat} {τ : ta} (h : rc_T M τ) (fr : am_fg L LV M M') (hL : ∀ f ∈ [1, 2, 3, 6, 7, 18, 19, 20, 21], f ∉ L) (hV : 4 ∉ LV) : rc_T M' τ := by
  obtain ⟨h1, h2, h3, h4, h5, h6, h7⟩ := h
  have fv : ∀ i, M'.2.1 4 i = M.2.1 4 i := fun i => fr.2.1 4 i hV
  have f : ∀ g, g ∈ [1, 2, 3, 6, 7, 18, 19, 20, 21] → ∀ i k, M'.1 g i k = M.1 g i k := fun g hg i k => fr.2.2 g i k (hL g hg)
  refine ⟨(f 1 (by simp) _ _).trans h1, fun w hw => ⟨(f 2 (by simp) _ _).trans (h2 w hw).1, (f 3 (by simp) _ _).trans (h2 w hw).2⟩, fun i hi => by rw [fv]; exact h3 i hi, fun i j hi hj q => by rw [fv, fv] at q; exact h4 i j hi hj q, fun s hs => ?_, fun k hk => (f 7 (by simp) _ _).trans (h6 k hk), fun k hk => (f 6 (by simp) _ _).trans (h7 k hk)⟩
  obtain ⟨a1, a2, a3, a4⟩ := h5 s hs
  rw [fv]
  exact ⟨(f 18 (by simp) _ _).trans a1, (f 18 (by simp) _ _).trans a2, (f 18 (by simp) _ _).trans a3, fun e he => ⟨(f 19 (by simp) _ _).trans (a4 e he).1, (f 20 (by simp) _ _).trans (a4 e he).2.1, (f 21 (by simp) _ _).trans (a4 e he).2.2⟩⟩
def rc_W (M : am_M) (τ : ta) (P : Nat → Prop) (p : Nat) (w : wd) : Prop :=
  M.1 24 p 0 = nI (wd_c w) ∧ M.1 24 p 1 = nI (wd_n w) ∧ (∀ k, k < wd_n w → ∀ j, j < 9 → M.1 27 (6 * p + k) j = wd_t w k j) ∧ ∀ s e, P s → e < ta_dn τ s → M.1 26 p (4 * s + e) = wd_a w s e
theorem rc_W_fr {M M' : am_M} {L LV : List Nat} {τ : ta} {P : Nat → Prop} {p : Nat} {w : wd} (h : rc_W M τ P p w) (fr : am_fg L LV M M') (hL : ∀ f ∈ [24, 26, 27], f ∉ L) : rc_W M' τ P p w := by
  obtain ⟨h1, h2, h3, h4⟩ := h
  have f : ∀ g, g ∈ [24, 26, 27] → ∀ i k, M'.1 g i k = M.1 g i k := fun g hg i k => fr.2.2 g i k (hL g hg)
  exact ⟨(f 24 (by simp) _ _).trans h1, (f 24 (by simp) _ _).trans h2, fun k hk j hj => (f 27 (by simp) _ _).trans (h3 k hk j hj), fun s e hs he => (f 26 (by simp) _ _).trans (h4 s e hs he)⟩
def wd_ok (m : Nat) (w : wd) : Prop := wd_n w ≤ 6 ∧ wd_c w ≤ 1600000 * m ∧ ∀ k, k < wd_n w → tk_ok (wd_t w k)
theorem ta_rx_bd {τ : ta} (hτ : ta_ok τ) {s e : Nat} (hs : s < ta_n τ) (he : e < ta_dn τ s) : ta_in (ta_rx τ s e) 1050 ∧ ta_in (ta_ry τ s e) 1050 := by
  obtain ⟨-, h2, h3, -⟩ := hτ
  obtain ⟨a1, -, -, a4⟩ := h3 s hs
  obtain ⟨b1, b2, -⟩ := a4 e he
  obtain ⟨c1, c2⟩ := h2 _ a1
  unfold ta_in at *
  constructor
  · unfold ta_rx; rw [iz_add (by omega) (by omega)]; omega
  · unfold ta_ry; rw [iz_add (by omega) (by omega)]; omega
/-- a toll in ints -/
def ck_tl (o : Option Nat) : Int32 := match o with
  | none => -1
  | some t => nI t
set_option maxHeartbeats 1000000 in
theorem cw_setTolls {X : am_X} (hX : am_Cl X) (d : Nat) (M : am_M) (hd : 2 ≤ d) (τ : ta) (hτ : ta_ok τ) (hT : rc_T M τ) (s p : Nat) (hs : s < ta_n τ) (hp : p < 8) (P : Nat → Prop) (w : wd) (hW : rc_W M τ P p w) (m0 : Nat) (hw : wd_ok m0 w) (h6 : M.1 10 0 6 = nI (wd_n w)) (h7 : M.1 10 0 7 = nI (ta_dn τ s)) (hg : M.2.2.toInt = (ta_ru τ 0 * ta_ru τ 0 : Nat)) (Q : am_P)
    (h : ∀ M', am_fr [13] M M' → (∀ k e, k < wd_n w → e < ta_dn τ s → M'.1 13 0 (4 * k + e) = ck_tl (tk_toll τ (wd_t w k) s e)) → Q none M') : X d 50 0 [some (.inr (.inl (10, 0))), some (.inr (.inl (24, p))), some (.inr (.inl (1, 0))), some (.inl (nI s)), none, none, none, none, none, none, none, none] [] M Q := by
  obtain ⟨r1, r2, r3, r4, r5, r6, r7⟩ := id hT
  obtain ⟨q1, q2, q3, -, -⟩ := id hτ
  obtain ⟨sw, sm, sd, se⟩ := r5 s hs
  obtain ⟨b1, b2, b3, b4⟩ := q3 s hs
  obtain ⟨w1, w2, w3, -⟩ := hW
  obtain ⟨o1, o2, o3⟩ := hw
  have hgate : ta_ru τ 0 ≤ 500 := hτ.2.2.2.2.1
  have hkd := hτ.2.2.2.1
  refine am_go hX [7] 40 ?_
  refine ⟨s, by show s < 13; omega, rfl, ?_⟩
  have outer : ∀ t k : Nat, k + t = wd_n w → ∀ M' : am_M, am_fr [13] M M' → (∀ k' e, k' < k → e < ta_dn τ s → M'.1 13 0 (4 * k' + e) = ck_tl (tk_toll τ (wd_t w k') s e)) → ∀ z6 z7 z8 z9 z10 z11, X d 50 7 [some (.inr (.inl (10, 0))), some (.inr (.inl (24, p))), some (.inr (.inl (1, 0))), some (.inl (nI s)), some (.inr (.inl (18, M.2.1 4 s))), some (.inl (nI k)), z6, z7, z8, z9, z10, z11] [] M' Q := by
    intro t
    induction t with
    | zero =>
      intro k hk M' fr hdone z6 z7 z8 z9 z10 z11
      have hk : k = wd_n w := by omega
      subst hk
      have e6 : M'.1 10 0 6 = nI (wd_n w) := (fr.2 10 0 6 (by simp)).trans h6
      refine am_go hX [7] 40 ?_
      exact ⟨fun _ => h M' fr hdone, fun (q : ¬ M'.1 10 0 6 ≤ nI (wd_n w)) => absurd (by rw [e6]; exact nI_le (Nat.le_refl _) (by omega)) q⟩
    | succ t ih =>
      intro k hk M' fr hdone z6 z7 z8 z9 z10 z11
      have hkn : k < wd_n w := by omega
      have e6 : M'.1 10 0 6 = nI (wd_n w) := (fr.2 10 0 6 (by simp)).trans h6
      have htr : ∀ j, j < 9 → M'.1 27 (6 * p + k) j = wd_t w k j := fun j hj => (fr.2 27 _ j (by simp)).trans (w3 k hkn j hj)
      have hV : M'.2 = M.2 := fr.1
      have hok := o3 k hkn
      have h7t : (wd_t w k 7).toNatClampNeg < 10 := by
        have := hok.2.2.2.2.2.1
        have e : (wd_t w k 7).toNatClampNeg = (wd_t w k 7).toInt.toNat := rfl
        omega
      have e7t : wd_t w k 7 = nI (wd_t w k 7).toNatClampNeg := by
        apply iz_nI
        · have := hok.2.2.2.2.2.1
          have e : (wd_t w k 7).toNatClampNeg = (wd_t w k 7).toInt.toNat := rfl
          omega
        · omega
      have ekd : M'.1 7 0 (wd_t w k 7).toNatClampNeg = nI (ta_kd τ (wd_t w k 7).toNatClampNeg) := (fr.2 7 0 _ (by simp)).trans (r6 _ h7t)
      have emo : M'.1 18 (M.2.1 4 s) 1 = nI (ta_mo τ s) := (fr.2 18 _ 1 (by simp)).trans sm
      refine am_go hX [7, 36] 60 ?_
      refine ⟨fun (q : M'.1 10 0 6 ≤ nI k) => absurd q (by rw [e6]; exact nI_ge hkn (by omega)), fun _ => ?_⟩
      refine ⟨k, by show k < 6; omega, rfl, ?_⟩
      refine ⟨(wd_t w k 7).toNatClampNeg, h7t, (htr 7 (by omega)).trans e7t, ?_⟩
      refine am_cc (by omega) (cw_foretoldX hX _ _ (by omega) _ _ _ _ ?_)
      refine am_cc (by omega) (cw_foretoldY hX _ _ (by omega) _ _ _ _ ?_)
      have hmo : (nI (ta_mo τ s)).toInt = (ta_mo τ s : Int) := nI_toInt (by omega)
      have efx0 : (M'.1 27 (6 * p + k) 0 + ck_ah (M'.1 7 0 (wd_t w k 7).toNatClampNeg) (M'.1 18 (M.2.1 4 s) 1) (M'.1 27 (6 * p + k) 4) * M'.1 27 (6 * p + k) 2).toInt = tk_f τ (wd_t w k) (ta_mo τ s) 0 := by
        rw [htr 0 (by omega), htr 4 (by omega), htr 2 (by omega), ekd, emo, ← hmo]
        exact ck_f_ok hok hkd (by rw [hmo]; omega) (by rw [hmo]; omega) (Or.inl rfl)
      have efy0 : (M'.1 27 (6 * p + k) 1 + ck_ah (M'.1 7 0 (wd_t w k 7).toNatClampNeg) (M'.1 18 (M.2.1 4 s) 1) (M'.1 27 (6 * p + k) 4) * M'.1 27 (6 * p + k) 3).toInt = tk_f τ (wd_t w k) (ta_mo τ s) 1 := by
        rw [htr 1 (by omega), htr 4 (by omega), htr 3 (by omega), ekd, emo, ← hmo]
        exact ck_f_ok hok hkd (by rw [hmo]; omega) (by rw [hmo]; omega) (Or.inr rfl)
      have bfx := tk_f_bd (τ := τ) hok (show (0 : Int) ≤ ta_mo τ s by omega) (by omega) (c := 0) (Or.inl rfl)
      have bfy := tk_f_bd (τ := τ) hok (show (0 : Int) ≤ ta_mo τ s by omega) (by omega) (c := 1) (Or.inr rfl)
      have inner : ∀ fx fy : Int32, fx.toInt = tk_f τ (wd_t w k) (ta_mo τ s) 0 → fy.toInt = tk_f τ (wd_t w k) (ta_mo τ s) 1 → ∀ t2 e : Nat, e + t2 = ta_dn τ s → ∀ M2 : am_M, am_fr [13] M M2 → (∀ k' e', k' < k → e' < ta_dn τ s → M2.1 13 0 (4 * k' + e') = ck_tl (tk_toll τ (wd_t w k') s e')) → (∀ e', e' < e → M2.1 13 0 (4 * k + e') = ck_tl (tk_toll τ (wd_t w k) s e')) → ∀ z7 z11, X d 50 36 [some (.inr (.inl (10, 0))), some (.inr (.inl (24, p))), some (.inr (.inl (1, 0))), some (.inl (nI s)), some (.inr (.inl (18, M.2.1 4 s))), some (.inl (nI k)), some (.inr (.inl (27, 6 * p + k))), z7, some (.inl (fx)), some (.inl (fy)), some (.inl (nI e)), z11] [] M2 Q := by
        intro fx fy efx efy t2
        induction t2 with
        | zero =>
          intro e he M2 fr2 hd1 hd2 z7 z11
          have he : e = ta_dn τ s := by omega
          subst he
          have e7 : M2.1 10 0 7 = nI (ta_dn τ s) := (fr2.2 10 0 7 (by simp)).trans h7
          refine am_go hX [7] 60 ?_
          refine ⟨fun _ => ?_, fun (q : ¬ M2.1 10 0 7 ≤ nI (ta_dn τ s)) => absurd (by rw [e7]; exact nI_le (Nat.le_refl _) (by omega)) q⟩
          refine (fun (z : X d 50 7 [some (.inr (.inl (10, 0))), some (.inr (.inl (24, p))), some (.inr (.inl (1, 0))), some (.inl (nI s)), some (.inr (.inl (18, M.2.1 4 s))), some (.inl (nI k + 1)), some (.inr (.inl (27, 6 * p + k))), z7, some (.inl (fx)), some (.inl (fy)), some (.inl (nI (ta_dn τ s))), z11] [] M2 Q) => z) ?_
          rw [nI_1]
          refine ih (k + 1) (by omega) M2 fr2 (fun k' e' hk' he' => ?_) _ _ _ _ _ _
          by_cases z : k' = k
          · subst z; exact hd2 e' he'
          · exact hd1 k' e' (by omega) he'
        | succ t2 ih2 =>
          intro e he M2 fr2 hd1 hd2 z7 z11
          have hen : e < ta_dn τ s := by omega
          have e7 : M2.1 10 0 7 = nI (ta_dn τ s) := (fr2.2 10 0 7 (by simp)).trans h7
          have htr2 : ∀ j, j < 9 → M2.1 27 (6 * p + k) j = wd_t w k j := fun j hj => (fr2.2 27 _ j (by simp)).trans (w3 k hkn j hj)
          have hV2 : M2.2 = M.2 := fr2.1
          have emk : M2.1 21 (M.2.1 4 s) e = nI (ta_dm τ s e) := (fr2.2 21 _ e (by simp)).trans (se e hen).2.2
          have ewt : M2.1 18 (M2.2.1 4 s) 0 = nI (ta_wt τ s) := by rw [hV2]; exact (fr2.2 18 _ 0 (by simp)).trans sw
          have ex : M2.1 19 (M2.2.1 4 s) e + M2.1 2 0 (ta_wt τ s) = ta_rx τ s e := by
            rw [hV2, fr2.2 19 _ e (by simp), fr2.2 2 _ _ (by simp), (se e hen).1, (r2 _ b1).1]; rfl
          have ey : M2.1 20 (M2.2.1 4 s) e + M2.1 3 0 (ta_wt τ s) = ta_ry τ s e := by
            rw [hV2, fr2.2 20 _ e (by simp), fr2.2 3 _ _ (by simp), (se e hen).2.1, (r2 _ b1).2]; rfl
          obtain ⟨bx, by_⟩ := ta_rx_bd hτ hs hen
          unfold ta_in at bx by_
          have ix : 4 * nI k + nI e = nI (4 * k + e) := by rw [show (4 : Int32) = nI 4 from rfl, pk_mul, nI_add]
          have mz : nI (ta_dm τ s e) = 0 ↔ ta_dm τ s e = 0 := nI_eq (a := ta_dm τ s e) (b := 0) (by have := (b4 e hen).2.2; omega) (by decide)
          -- behind the store
          have nxt : ∀ v : Int32, v = ck_tl (tk_toll τ (wd_t w k) s e) → ∀ z11, X d 50 36 [some (.inr (.inl (10, 0))), some (.inr (.inl (24, p))), some (.inr (.inl (1, 0))), some (.inl (nI s)), some (.inr (.inl (18, M.2.1 4 s))), some (.inl (nI k)), some (.inr (.inl (27, 6 * p + k))), z7, some (.inl (fx)), some (.inl (fy)), some (.inl (nI e + 1)), z11] [] (am_si M2 13 0 (4 * k + e) v) Q := by
            intro v hv z11
            rw [nI_1]
            refine ih2 (e + 1) (by omega) _ (am_fr_si fr2 (by simp)) (fun k' e' hk' he' => ?_) (fun e' he' => ?_) _ _
            · rw [am_si_at, if_neg (by omega)]; exact hd1 k' e' hk' he'
            · rw [am_si_at]
              by_cases z : e' = e
              · subst z; rw [if_pos ⟨rfl, rfl, rfl⟩]; exact hv
              · rw [if_neg (by omega)]; exact hd2 e' (by omega)
          have closed : ¬ (wd_t w k 8 = 0 ∧ (wd_t w k 7 = 0 ∨ ta_dm τ s e = 0 ∨ wd_t w k 7 = nI (ta_dm τ s e))) → X d 50 53 [some (.inr (.inl (10, 0))), some (.inr (.inl (24, p))), some (.inr (.inl (1, 0))), some (.inl (nI s)), some (.inr (.inl (18, M.2.1 4 s))), some (.inl (nI k)), some (.inr (.inl (27, 6 * p + k))), z7, some (.inl (fx)), some (.inl (fy)), some (.inl (nI e)), z11] [.inl 0] M2 Q := by
            intro hc
            refine am_go hX [36] 60 ?_
            refine am_beq0 ⟨4 * k + e, by show 4 * k + e < 24; omega, ix, ?_⟩
            refine nxt (-1) ?_ _
            unfold tk_toll
            rw [if_neg (fun q => hc ⟨q.1, q.2.1⟩)]; rfl
          refine am_go hX [36, 53] 60 ?_
          refine ⟨fun (q : M2.1 10 0 7 ≤ nI e) => absurd q (by rw [e7]; exact nI_ge hen (by omega)), fun _ => ?_⟩
          refine ⟨fun (q : ¬ M2.1 27 (6 * p + k) 8 = 0) => closed (fun z => q ((htr2 8 (by omega)).trans z.1)), fun (q : ¬ ¬ M2.1 27 (6 * p + k) 8 = 0) => ?_⟩
          have q8 : wd_t w k 8 = 0 := (htr2 8 (by omega)).symm.trans (Classical.not_not.mp q)
          refine ⟨e, by show e < 4; omega, rfl, am_cc (by omega) (cw_mayBear hX _ _ _ _ _ (fun hm => ?_) (fun hm => ?_))⟩
          · refine am_beq1 ?_
            have hm : wd_t w k 7 = 0 ∨ ta_dm τ s e = 0 ∨ wd_t w k 7 = nI (ta_dm τ s e) := by
              have hm : M2.1 27 (6 * p + k) 7 = 0 ∨ M2.1 21 (M.2.1 4 s) e = 0 ∨ M2.1 27 (6 * p + k) 7 = M2.1 21 (M.2.1 4 s) e := hm
              rw [htr2 7 (by omega), emk, mz] at hm; exact hm
            refine (fun (z : X d 50 53 [some (.inr (.inl (10, 0))), some (.inr (.inl (24, p))), some (.inr (.inl (1, 0))), some (.inl (nI s)), some (.inr (.inl (18, M.2.1 4 s))), some (.inl (nI k)), some (.inr (.inl (27, 6 * p + k))), z7, some (.inl (fx)), some (.inl (fy)), some (.inl (nI e)), z11] [.inl 1] M2 Q) => z) ?_
            refine am_go hX [36] 60 ?_
            refine am_beq1 (am_cc (by omega) (cw_rightX hX _ _ s e (ta_wt τ s) (by omega) (by omega) b1 ewt _ ?_))
            rw [ex]
            refine am_cc (by omega) (cw_rightY hX _ _ s e (ta_wt τ s) (by omega) (by omega) b1 ewt _ ?_)
            rw [ey]
            refine am_cc (by omega) (cw_toll hX _ _ _ _ _ ?_)
            refine ⟨4 * k + e, by show 4 * k + e < 24; omega, ix, ?_⟩
            refine nxt _ ?_ _
            have dxe : (ta_rx τ s e - fx).toInt = (ta_rx τ s e).toInt - tk_f τ (wd_t w k) (ta_mo τ s) 0 := by rw [iz_sub (by rw [efx]; omega) (by rw [efx]; omega), efx]
            have dye : (ta_ry τ s e - fy).toInt = (ta_ry τ s e).toInt - tk_f τ (wd_t w k) (ta_mo τ s) 1 := by rw [iz_sub (by rw [efy]; omega) (by rw [efy]; omega), efy]
            have hck : _ = if tk_sq τ (wd_t w k) s e ≤ ta_ru τ 0 * ta_ru τ 0 then nI (tk_sq τ (wd_t w k) s e) else -1 := ck_toll_ok (g := M2.2.2) (dx := (ta_rx τ s e - fx).toInt64) (dy := (ta_ry τ s e - fy).toInt64) (gate := ta_ru τ 0) (by rw [hV2]; exact hg) hgate ((lz_of _).trans dxe) ((lz_of _).trans dye) (by omega) (by omega)
            rw [hck]
            unfold tk_toll
            by_cases z : tk_sq τ (wd_t w k) s e ≤ ta_ru τ 0 * ta_ru τ 0
            · rw [if_pos z, if_pos ⟨q8, hm, z⟩]; rfl
            · rw [if_neg z, if_neg (fun y => z y.2.2)]; rfl
          · refine am_beq0 ?_
            refine closed (fun z => hm ?_)
            show M2.1 27 (6 * p + k) 7 = 0 ∨ M2.1 21 (M.2.1 4 s) e = 0 ∨ M2.1 27 (6 * p + k) 7 = M2.1 21 (M.2.1 4 s) e
            rw [htr2 7 (by omega), emk, mz]; exact z.2
      exact inner _ _ efx0 efy0 (ta_dn τ s) 0 (by omega) M' fr hdone (fun e' he' => by omega) _ _
  exact outer (wd_n w) 0 (by omega) M (am_fr_rf _ M) (fun k' e hk' => by omega) _ _ _ _ _ _
end
section
theorem ck_tl_m {t : Nat} (h : t ≤ 250000) : ¬ nI t = -1 := by
  intro q
  have h1 : (nI t).toInt = (-1 : Int32).toInt := by rw [q]
  rw [nI_toInt (by omega)] at h1
  have h2 : (-1 : Int32).toInt = -1 := by decide
  omega
theorem cw_setLeast {X : am_X} (hX : am_Cl X) (d : Nat) (M : am_M) (hd : 1 ≤ d) (T : Nat → Nat → Option Nat) (nT n birth fals : Nat) (hT6 : nT ≤ 6) (hn : n ≤ 4) (hb : birth ≤ 100000) (hf : fals ≤ 100000) (h2 : M.1 10 0 2 = nI birth) (h3 : M.1 10 0 3 = nI fals) (h6 : M.1 10 0 6 = nI nT) (h7 : M.1 10 0 7 = nI n)
    (ht : ∀ k e, k < nT → e < n → M.1 13 0 (4 * k + e) = ck_tl (T k e)) (hT : ∀ k e t, T k e = some t → t ≤ 250000) (Q : am_P)
    (h : ∀ M', am_fr [14] M M' → (∀ e, e ≤ n → M'.1 14 0 e = nI (jl_s T nT birth fals (n - e) e)) → Q none M') : X d 52 0 [some (.inr (.inl (10, 0))), none, none, none, none] [] M Q := by
  refine am_go hX [11] 40 ?_
  refine ⟨n, by show n < 5; omega, h7, ?_⟩
  refine (fun (z : X d 52 11 [some (.inr (.inl (10, 0))), some (.inl (M.1 10 0 7 - 1)), none, none, none] [] (am_si M 14 0 n 0) Q) => z) ?_
  rw [h7]
  have loop : ∀ j : Nat, j ≤ n → ∀ M' : am_M, am_fr [14] M M' → (∀ e, j ≤ e → e ≤ n → M'.1 14 0 e = nI (jl_s T nT birth fals (n - e) e)) → ∀ z2 z3 z4, X d 52 11 [some (.inr (.inl (10, 0))), some (.inl (nI j - 1)), z2, z3, z4] [] M' Q := by
    intro j
    induction j with
    | zero =>
      intro hj M' fr hdone z2 z3 z4
      refine am_go hX [] 40 ?_
      exact ⟨fun _ => h M' fr (fun e he => hdone e (Nat.zero_le e) he), fun (q : ¬ nI 0 - 1 < 0) => absurd (by decide) q⟩
    | succ j ih =>
      intro hj M' fr hdone z2 z3 z4
      rw [nI_pred]
      refine am_go hX [21] 40 ?_
      refine ⟨fun (q : nI j < 0) => absurd q (nI_pos (by omega)), fun _ => am_cc hd (lb_min hX _ _ _ _ _ ?_)⟩
      have em : (if M'.1 10 0 3 < M'.1 10 0 2 then M'.1 10 0 3 else M'.1 10 0 2) = nI (jl_m T birth fals j 0) := by
        rw [fr.2 10 0 3 (by simp), fr.2 10 0 2 (by simp), h2, h3]
        unfold jl_m
        by_cases z : fals < birth
        · rw [if_pos (nI_lt z (by omega)), if_pos z]
        · rw [if_neg (nI_nlt (by omega) (by omega)), if_neg z]
      refine (fun (z : X d 52 21 [some (.inr (.inl (10, 0))), some (.inl (nI j)), some (.inl (if M'.1 10 0 3 < M'.1 10 0 2 then M'.1 10 0 3 else M'.1 10 0 2)), some (.inl (nI 0)), z4] [] M' Q) => z) ?_
      rw [em]
      have inner : ∀ t k : Nat, k + t = nT → ∀ z4, X d 52 21 [some (.inr (.inl (10, 0))), some (.inl (nI j)), some (.inl (nI (jl_m T birth fals j k))), some (.inl (nI k)), z4] [] M' Q := by
        intro t
        induction t with
        | zero =>
          intro k hk z4
          have hk : k = nT := by omega
          subst hk
          have e6 : M'.1 10 0 6 = nI k := (fr.2 10 0 6 (by simp)).trans h6
          refine am_go hX [11] 60 ?_
          refine ⟨fun _ => ?_, fun (q : ¬ M'.1 10 0 6 ≤ nI k) => absurd (by rw [e6]; exact nI_le (Nat.le_refl _) (by omega)) q⟩
          refine ⟨j + 1, by show j + 1 < 5; omega, nI_1 j, j, by show j < 5; omega, rfl, ?_⟩
          refine (fun (z : X d 52 11 [some (.inr (.inl (10, 0))), some (.inl (nI j + (-1))), some (.inl (nI (jl_m T birth fals j k))), some (.inl (nI k)), z4] [] (am_si M' 14 0 j (M'.1 14 0 (j + 1) + nI (jl_m T birth fals j k))) Q) => z) ?_
          rw [show nI j + (-1) = nI j - 1 from (Int32.sub_eq_add_neg _ _).symm, hdone (j + 1) (by omega) hj, nI_add]
          refine ih (by omega) _ (am_fr_si fr (by simp)) (fun e he1 he2 => ?_) _ _ _
          rw [am_si_at]
          by_cases z : e = j
          · subst z
            rw [if_pos ⟨rfl, rfl, rfl⟩, show n - e = (n - (e + 1)) + 1 by omega]
            simp only [jl_s]; congr 1; omega
          · rw [if_neg (by omega)]; exact hdone e (by omega) he2
        | succ t iht =>
          intro k hk z4
          have e6 : M'.1 10 0 6 = nI nT := (fr.2 10 0 6 (by simp)).trans h6
          have et : M'.1 13 0 (4 * k + j) = ck_tl (T k j) := (fr.2 13 0 _ (by simp)).trans (ht k j (by omega) (by omega))
          have ix : 4 * nI k + nI j = nI (4 * k + j) := by rw [show (4 : Int32) = nI 4 from rfl, pk_mul, nI_add]
          have hml := (jl_m_b T birth fals j k).1
          have nxt : ∀ v : Int32, v = nI (jl_m T birth fals j (k + 1)) → ∀ z4, X d 52 41 [some (.inr (.inl (10, 0))), some (.inl (nI j)), some (.inl (v)), some (.inl (nI k)), z4] [] M' Q := by
            rintro v rfl z4
            refine am_go hX [21] 60 ?_
            refine (fun (z : X d 52 21 [some (.inr (.inl (10, 0))), some (.inl (nI j)), some (.inl (nI (jl_m T birth fals j (k + 1)))), some (.inl (nI k + 1)), z4] [] M' Q) => z) ?_
            rw [nI_1]
            exact iht (k + 1) (by omega) z4
          refine am_go hX [21, 41] 60 ?_
          refine ⟨fun (q : M'.1 10 0 6 ≤ nI k) => absurd q (by rw [e6]; exact nI_ge (by omega) (by omega)), fun _ => ?_⟩
          refine ⟨4 * k + j, by show 4 * k + j < 24; omega, ix, ?_⟩
          cases hTk : T k j with
          | none =>
            rw [hTk] at et
            refine ⟨fun _ => nxt _ ?_ _, fun (q : ¬ M'.1 13 0 (4 * k + j) = -1) => absurd et q⟩
            rw [jl_m, hTk]
          | some tl =>
            rw [hTk] at et
            have htl := hT k j tl hTk
            refine ⟨fun (q : M'.1 13 0 (4 * k + j) = -1) => absurd (et.symm.trans q) (ck_tl_m htl), fun _ => am_cc hd (lb_min hX _ _ _ _ _ ?_)⟩
            refine nxt _ ?_ _
            show (if M'.1 13 0 (4 * k + j) < nI (jl_m T birth fals j k) then M'.1 13 0 (4 * k + j) else nI (jl_m T birth fals j k)) = _
            rw [et, jl_m, hTk]
            show (if nI tl < nI (jl_m T birth fals j k) then nI tl else nI (jl_m T birth fals j k)) = nI (if tl < jl_m T birth fals j k then tl else jl_m T birth fals j k)
            by_cases z : tl < jl_m T birth fals j k
            · rw [if_pos (nI_lt z (by omega)), if_pos z]
            · rw [if_neg (nI_nlt (by omega) (by omega)), if_neg z]
      exact inner nT 0 (by omega) _
  refine loop n (Nat.le_refl n) _ (am_fr_si (am_fr_rf _ M) (by simp)) (fun e he1 he2 => ?_) _ _ _
  have : e = n := by omega
  subst this
  rw [am_si_at, if_pos ⟨rfl, rfl, rfl⟩, Nat.sub_self]; rfl
theorem cw_goBy {X : am_X} (hX : am_Cl X) (d : Nat) (M : am_M) (τ : ta) (hτ : ta_ok τ) (h6 : ∀ k, k < 6 → M.1 6 0 k = nI (ta_ru τ k)) (Q : am_P) (h : ∀ M', am_fg [10] [] (am_sl M M'.2.2) M' → M'.1 10 0 1 = nI (ta_ru τ 1) → M'.1 10 0 2 = nI (ta_ru τ 2) → M'.1 10 0 3 = nI (ta_ru τ 3) → M'.2.2.toInt = (ta_ru τ 0 * ta_ru τ 0 : Nat) → Q none M') : X d 48 0 [some (.inr (.inl (10, 0))), some (.inr (.inl (6, 0)))] [] M Q := by
  refine am_go hX [] 40 ?_
  refine ⟨1, by show 1 < 6; omega, rfl, 2, by show 2 < 6; omega, rfl, 3, by show 3 < 6; omega, rfl, 0, by show 0 < 6; omega, rfl, 0, by show 0 < 6; omega, rfl, ?_⟩
  refine h _ ⟨rfl, fun _ _ _ => rfl, fun f i k hf => ?_⟩ ?_ ?_ ?_ ?_
  · have h10 : f ≠ 10 := fun z => hf (by rw [z]; simp)
    show (am_si (am_si (am_si M 10 0 1 (M.1 6 0 1)) 10 0 2 (M.1 6 0 2)) 10 0 3 (M.1 6 0 3)).1 f i k = _
    rw [am_si_at, if_neg (fun q => h10 q.1), am_si_at, if_neg (fun q => h10 q.1), am_si_at, if_neg (fun q => h10 q.1)]; rfl
  · show (am_si (am_si (am_si M 10 0 1 (M.1 6 0 1)) 10 0 2 (M.1 6 0 2)) 10 0 3 (M.1 6 0 3)).1 10 0 1 = _
    rw [am_si_at, if_neg (by omega), am_si_at, if_neg (by omega), am_si_at, if_pos ⟨rfl, rfl, rfl⟩]; exact h6 1 (by omega)
  · show (am_si (am_si (am_si M 10 0 1 (M.1 6 0 1)) 10 0 2 (M.1 6 0 2)) 10 0 3 (M.1 6 0 3)).1 10 0 2 = _
    rw [am_si_at, if_neg (by omega), am_si_at, if_pos ⟨rfl, rfl, rfl⟩]; exact h6 2 (by omega)
  · show (am_si (am_si (am_si M 10 0 1 (M.1 6 0 1)) 10 0 2 (M.1 6 0 2)) 10 0 3 (M.1 6 0 3)).1 10 0 3 = _
    rw [am_si_at, if_pos ⟨rfl, rfl, rfl⟩]; exact h6 3 (by omega)
  · show ((M.1 6 0 0).toInt64 * (M.1 6 0 0).toInt64).toInt = _
    have hg := hτ.2.2.2.2.1
    have e : (M.1 6 0 0).toInt64.toInt = (ta_ru τ 0 : Int) := by rw [lz_of, h6 0 (by omega), nI_toInt (by omega)]
    have hb := iz_sq (a := (ta_ru τ 0 : Int)) (b := 500) (by omega) (by omega)
    rw [lz_mul (by rw [e]; omega) (by rw [e]; omega), e, Int.natCast_mul]
theorem cw_countLooked {X : am_X} (hX : am_Cl X) (d : Nat) (M : am_M) (p n : Nat) (hn : n ≤ 6) (t : Nat → Nat → Int32) (h1 : M.1 24 p 1 = nI n) (ht : ∀ k, k < n → M.1 27 (6 * p + k) 8 = t k 8) (Q : am_P) (h : Q (some (.inl (nI (wd_lk t n)))) M) : X d 68 0 [some (.inr (.inl (24, p))), none, none] [] M Q := by
  refine am_go hX [4] 40 ?_
  have loop : ∀ r k : Nat, k + r = n → X d 68 4 [some (.inr (.inl (24, p))), some (.inl (nI (wd_lk t k))), some (.inl (nI k))] [] M Q := by
    intro r
    induction r with
    | zero =>
      intro k hk
      have hk : k = n := by omega
      subst hk
      refine am_go hX [4] 40 ?_
      exact ⟨fun _ => h, fun (q : ¬ M.1 24 p 1 ≤ nI k) => absurd (by rw [h1]; exact nI_le (Nat.le_refl _) (by omega)) q⟩
    | succ r ih =>
      intro k hk
      refine am_go hX [4] 40 ?_
      refine ⟨fun (q : M.1 24 p 1 ≤ nI k) => absurd q (by rw [h1]; exact nI_ge (by omega) (by omega)), fun _ => ?_⟩
      refine ⟨k, by show k < 6; omega, rfl, fun (q : M.1 27 (6 * p + k) 8 = 0) => ?_, fun (q : ¬ M.1 27 (6 * p + k) 8 = 0) => ?_⟩
      · refine (fun (z : X d 68 4 [some (.inr (.inl (24, p))), some (.inl (nI (wd_lk t k) + 1)), some (.inl (nI k + 1))] [] M Q) => z) ?_
        rw [nI_1, nI_1]
        have := ih (k + 1) (by omega)
        rw [wd_lk, if_pos ((ht k (by omega)).symm.trans q)] at this; exact this
      · refine (fun (z : X d 68 4 [some (.inr (.inl (24, p))), some (.inl (nI (wd_lk t k) + 0)), some (.inl (nI k + 1))] [] M Q) => z) ?_
        rw [nI_1, Int32.add_zero]
        have := ih (k + 1) (by omega)
        rw [wd_lk, if_neg (fun z => q ((ht k (by omega)).trans z))] at this; exact this
  exact loop n 0 (by omega)
theorem wd_lk_cnt (t : Nat → Nat → Int32) : ∀ n, wd_lk t n = jn_cnt (fun k => decide (t k 8 = 0)) (fun _ => false) n
  | 0 => rfl
  | n + 1 => by
    rw [wd_lk, jn_cnt, wd_lk_cnt t n]
    by_cases h : t n 8 = 0
    · rw [if_pos h, if_pos ⟨by simp [h], rfl⟩]
    · rw [if_neg h, if_neg (fun q => h (by simpa using q.1))]
set_option maxHeartbeats 1000000 in
theorem cw_deal {X : am_X} (hX : am_Cl X) (d : Nat) (M : am_M) (hd : 7 ≤ d) (τ : ta) (hτ : ta_ok τ) (hT : rc_T M τ) (s p q : Nat) (hs : s < ta_n τ) (hp : p < 8) (P : Nat → Prop) (w : wd) (hW : rc_W M τ P p w) (m0 : Nat) (hm0 : m0 ≤ 12) (hw : wd_ok m0 w) (K : Nat) (l : List jn) (hL : cs_L M K (ta_dn τ s) l)
    (g1 : M.1 10 0 1 = nI (ta_ru τ 1)) (g2 : M.1 10 0 2 = nI (ta_ru τ 2)) (g3 : M.1 10 0 3 = nI (ta_ru τ 3)) (hg : M.2.2.toInt = (ta_ru τ 0 * ta_ru τ 0 : Nat)) (htk : ∀ k, k < 6 → M.1 16 0 k = 0) (Q : am_P)
    (h : ∀ M', am_fg [10, 11, 13, 14, 15, 16, 22, 23] [12] M M' → M'.1 10 0 1 = nI (ta_ru τ 1) → M'.1 10 0 2 = nI (ta_ru τ 2) → M'.1 10 0 3 = nI (ta_ru τ 3) → (∀ k, k < 6 → M'.1 16 0 k = 0) → cs_L M' K (ta_dn τ s) (((jn_all τ s w).map (jn_J q)).foldl (jn_off K) l) → Q none M') : X d 49 0 [some (.inr (.inl (10, 0))), some (.inl (nI q)), some (.inr (.inl (24, p))), some (.inr (.inl (1, 0))), some (.inl (nI s))] [] M Q := by
  obtain ⟨r1, r2, r3, r4, r5, r6, r7⟩ := id hT
  obtain ⟨sw, sm, sd, se⟩ := r5 s hs
  obtain ⟨w1, w2, w3, -⟩ := id hW
  obtain ⟨o1, o2, o3⟩ := id hw
  have b3 := (hτ.2.2.1 s hs).2.2.1
  have hn12 := hτ.1
  obtain ⟨ru0, ru1, ru2, ru3, ru4, ru5⟩ := hτ.2.2.2.2
  refine am_go hX [] 40 ?_
  refine ⟨s, by show s < 13; omega, rfl, am_cc (by omega) ?_⟩
  generalize hM1 : am_si (am_si (am_si M 10 0 5 (nI q)) 10 0 6 (M.1 24 p 1)) 10 0 7 (M.1 18 (M.2.1 4 s) 2) = M1
  have fr1 : am_fg [10] [] M M1 := by rw [← hM1]; exact am_fg_si (am_fg_si (am_fg_si (am_fg_rf _ _ _) (by simp)) (by simp)) (by simp)
  have e5 : M1.1 10 0 5 = nI q := by rw [← hM1, am_si_at, if_neg (by omega), am_si_at, if_neg (by omega), am_si_at, if_pos ⟨rfl, rfl, rfl⟩]
  have e6 : M1.1 10 0 6 = nI (wd_n w) := by rw [← hM1, am_si_at, if_neg (by omega), am_si_at, if_pos ⟨rfl, rfl, rfl⟩, w2]
  have e7 : M1.1 10 0 7 = nI (ta_dn τ s) := by rw [← hM1, am_si_at, if_pos ⟨rfl, rfl, rfl⟩, sd]
  have k1 : M1.1 10 0 1 = nI (ta_ru τ 1) := by rw [← hM1, am_si_at, if_neg (by omega), am_si_at, if_neg (by omega), am_si_at, if_neg (by omega), g1]
  have k2 : M1.1 10 0 2 = nI (ta_ru τ 2) := by rw [← hM1, am_si_at, if_neg (by omega), am_si_at, if_neg (by omega), am_si_at, if_neg (by omega), g2]
  have k3 : M1.1 10 0 3 = nI (ta_ru τ 3) := by rw [← hM1, am_si_at, if_neg (by omega), am_si_at, if_neg (by omega), am_si_at, if_neg (by omega), g3]
  refine (fun (z : X (d - 1) 50 0 [some (.inr (.inl (10, 0))), some (.inr (.inl (24, p))), some (.inr (.inl (1, 0))), some (.inl (nI s)), none, none, none, none, none, none, none, none] [] (am_si (am_si (am_si M 10 0 5 (nI q)) 10 0 6 (M.1 24 p 1)) 10 0 7 (M.1 18 (M.2.1 4 s) 2)) _) => z) ?_
  rw [hM1]
  refine cw_setTolls hX _ _ (by omega) τ hτ (rc_T_fr hT fr1 (by simp) (by simp)) s p hs hp P w (rc_W_fr hW fr1 (by simp)) m0 hw e6 e7 (by rw [fr1.1]; exact hg) _ (fun M2 fr2 ht2 => ?_)
  have hTb : ∀ k e t, (fun k e => tk_toll τ (wd_t w k) s e) k e = some t → t ≤ 250000 ∧ (fun k => decide (wd_t w k 8 = 0)) k = true := by
    intro k e t hq
    dsimp only at hq ⊢
    unfold tk_toll at hq
    split at hq
    · rename_i z
      cases hq
      refine ⟨?_, by simpa using z.1⟩
      have := Nat.mul_le_mul ru0 ru0
      omega
    · cases hq
  refine am_cc (by omega) (cw_setLeast hX _ _ (by omega) (fun k e => tk_toll τ (wd_t w k) s e) (wd_n w) (ta_dn τ s) (ta_ru τ 2) (ta_ru τ 3) o1 b3 ru2 ru3 ((fr2.2 10 0 2 (by simp)).trans k2) ((fr2.2 10 0 3 (by simp)).trans k3) ((fr2.2 10 0 6 (by simp)).trans e6) ((fr2.2 10 0 7 (by simp)).trans e7) ht2 (fun k e t hq => (hTb k e t hq).1) _ (fun M3 fr3 hl3 => ?_))
  have frA : am_fg [10, 13, 14] [] M M3 := am_fg_tr (am_fg_mono fr1 (by simp) (by simp)) (am_fg_tr (am_fg_mono (am_fg_of fr2 []) (by simp) (by simp)) (am_fg_mono (am_fg_of fr3 []) (by simp) (by simp)))
  have t10 : ∀ k, M3.1 10 0 k = M1.1 10 0 k := fun k => (fr3.2 10 0 k (by simp)).trans (fr2.2 10 0 k (by simp))
  refine am_cc (by omega) (cw_countLooked hX _ _ p (wd_n w) o1 (wd_t w) ((frA.2.2 24 _ _ (by simp)).trans w2) (fun k hk => (frA.2.2 27 _ _ (by simp)).trans (w3 k hk 8 (by omega))) _ ?_)
  refine am_cc (by omega) ?_
  refine (fun (z : X (d - 1) 54 0 [some (.inr (.inl (10, 0))), some (.inl (nI 0)), some (.inl (M3.1 24 p 0)), some (.inl (nI (wd_lk (wd_t w) (wd_n w)))), some (.inl (nI 0)), none, none] [] M3 _) => z) ?_
  rw [frA.2.2 24 p 0 (by simp), w1]
  have hD : cs_D M3 (fun k e => tk_toll τ (wd_t w k) s e) (fun k => decide (wd_t w k 8 = 0)) (wd_n w) (ta_dn τ s) q (ta_ru τ 1) (ta_ru τ 2) (ta_ru τ 3) := by
    refine ⟨(t10 1).trans k1, (t10 2).trans k2, (t10 3).trans k3, (t10 5).trans e5, (t10 6).trans e6, (t10 7).trans e7, o1, b3, ru1, ru2, ru3, fun k e hk he => ?_, hTb, hl3⟩
    rw [fr3.2 13 0 _ (by simp), ht2 k e hk he]
    unfold ck_tl; rfl
  have hlk : wd_lk (wd_t w) (wd_n w) ≤ 6 := by rw [wd_lk_cnt]; have := jn_cnt_le (fun k => decide (wd_t w k 8 = 0)) (fun _ => false) (wd_n w); omega
  refine cw_dealFrom hX (fun k e => tk_toll τ (wd_t w k) s e) (fun k => decide (wd_t w k 8 = 0)) (wd_n w) (ta_dn τ s) q (ta_ru τ 1) (ta_ru τ 2) (ta_ru τ 3) K (ta_dn τ s) (d - 1) (by omega) M3 l 0 (wd_c w) (wd_lk (wd_t w) (wd_n w)) 0 (fun _ => false) [] hD (cs_L_fr hL frA (by simp) (by simp) (by simp) (by simp)) (by omega) rfl (wd_lk_cnt _ _) (Nat.le_refl 0) (by omega) (fun k hk => ?_) (fun i hi => by omega) _ (fun M4 fr4 hL4 ht4 _ => ?_)
  · rw [frA.2.2 16 0 k (by simp), htk k hk]; rfl
  · refine h M4 (am_fg_tr (am_fg_mono frA (by simp) (by simp)) (am_fg_mono fr4 (by simp) (by simp))) ?_ ?_ ?_ (fun k hk => ?_) hL4
    · rw [fr4.2.2 10 0 1 (by simp)]; exact (t10 1).trans k1
    · rw [fr4.2.2 10 0 2 (by simp)]; exact (t10 2).trans k2
    · rw [fr4.2.2 10 0 3 (by simp)]; exact (t10 3).trans k3
    · rw [ht4 k hk, frA.2.2 16 0 k (by simp)]; exact htk k hk
end
section
/-! a world copied; a join carried out -/
/-- only the cells of the b-th world differ -/
def ck_only (b : Nat) (M M' : am_M) : Prop := am_fr [24, 26, 27] M M' ∧ (∀ p j, p ≠ b → M'.1 24 p j = M.1 24 p j) ∧ (∀ p j, p ≠ b → M'.1 26 p j = M.1 26 p j) ∧ ∀ t j, (t < 6 * b ∨ 6 * b + 6 ≤ t) → M'.1 27 t j = M.1 27 t j
theorem ck_only_rf (b : Nat) (M : am_M) : ck_only b M M := ⟨am_fr_rf _ _, fun _ _ _ => rfl, fun _ _ _ => rfl, fun _ _ _ => rfl⟩
theorem ck_only_tr {b : Nat} {M M' M'' : am_M} (h : ck_only b M M') (h' : ck_only b M' M'') : ck_only b M M'' := ⟨am_fr_tr h.1 h'.1, fun p j q => (h'.2.1 p j q).trans (h.2.1 p j q), fun p j q => (h'.2.2.1 p j q).trans (h.2.2.1 p j q), fun t j q => (h'.2.2.2 t j q).trans (h.2.2.2 t j q)⟩
theorem ck_only_24 {b j : Nat} {x : Int32} {M M' : am_M} (h : ck_only b M M') : ck_only b M (am_si M' 24 b j x) := ⟨am_fr_si h.1 (by simp), fun p k q => by rw [am_si_at, if_neg (fun z => q z.2.1)]; exact h.2.1 p k q, fun p k q => by rw [am_si_at, if_neg (by omega)]; exact h.2.2.1 p k q, fun t k q => by rw [am_si_at, if_neg (by omega)]; exact h.2.2.2 t k q⟩
theorem ck_only_26 {b j : Nat} {x : Int32} {M M' : am_M} (h : ck_only b M M') : ck_only b M (am_si M' 26 b j x) := ⟨am_fr_si h.1 (by simp), fun p k q => by rw [am_si_at, if_neg (by omega)]; exact h.2.1 p k q, fun p k q => by rw [am_si_at, if_neg (fun z => q z.2.1)]; exact h.2.2.1 p k q, fun t k q => by rw [am_si_at, if_neg (by omega)]; exact h.2.2.2 t k q⟩
theorem ck_only_27 {b k : Nat} {r : Nat → Int32} {M M' M'' : am_M} (h : ck_only b M M') (hk : k < 6) (hr : ck_row M' M'' (6 * b + k) r) : ck_only b M M'' := by
  refine ⟨am_fr_tr h.1 (am_fr_mono hr.1 (by simp)), fun p j q => (hr.1.2 24 p j (by simp)).trans (h.2.1 p j q), fun p j q => (hr.1.2 26 p j (by simp)).trans (h.2.2.1 p j q), fun t j q => ?_⟩
  rw [hr.2 t j, if_neg (by omega)]; exact h.2.2.2 t j q
set_option maxHeartbeats 1000000 in
theorem cw_wcopy {X : am_X} (hX : am_Cl X) (d : Nat) (M : am_M) (hd : 1 ≤ d) (τ : ta) (P : Nat → Prop) (hP : ∀ s, P s → s < 12 ∧ ta_dn τ s ≤ 4) (a b : Nat) (hab : a ≠ b) (w : wd) (hW : rc_W M τ P a w) (m0 : Nat) (hw : wd_ok m0 w) (Q : am_P) (h : ∀ M', ck_only b M M' → rc_W M' τ P b w → Q none M') : X d 65 0 [some (.inr (.inl (24, b))), some (.inr (.inl (24, a))), none] [] M Q := by
  obtain ⟨w1, w2, w3, w4⟩ := hW
  obtain ⟨o1, o2, o3⟩ := hw
  refine am_go hX [10] 40 ?_
  have hv : (am_si M 24 b 0 (M.1 24 a 0)).1 24 a 1 = M.1 24 a 1 := by rw [am_si_at, if_neg (by omega)]
  refine (fun (z : X d 65 10 [some (.inr (.inl (24, b))), some (.inr (.inl (24, a))), some (.inl (nI 0))] [] (am_si (am_si M 24 b 0 (M.1 24 a 0)) 24 b 1 ((am_si M 24 b 0 (M.1 24 a 0)).1 24 a 1)) Q) => z) ?_
  rw [hv, w1, w2]
  have loop : ∀ r k : Nat, k + r = wd_n w → ∀ M' : am_M, ck_only b M M' → M'.1 24 b 0 = nI (wd_c w) → M'.1 24 b 1 = nI (wd_n w) → (∀ k', k' < k → ∀ j, j < 9 → M'.1 27 (6 * b + k') j = wd_t w k' j) → X d 65 10 [some (.inr (.inl (24, b))), some (.inr (.inl (24, a))), some (.inl (nI k))] [] M' Q := by
    intro r
    induction r with
    | zero =>
      intro k hk M' ho h0 h1 hdone
      have hk : k = wd_n w := by omega
      subst hk
      refine am_go hX [10] 40 ?_
      refine ⟨fun _ => ?_, fun (q : ¬ M'.1 24 b 1 ≤ nI (wd_n w)) => absurd (by rw [h1]; exact nI_le (Nat.le_refl _) (by omega)) q⟩
      refine ⟨hd, rfl, rfl, rfl, ?_⟩
      have hrow : ∀ j, j < 48 → (am_sr M' 26 b (va_cpy (M'.1 26 a) (M'.1 26 b) 0 0 48)).1 26 b j = M'.1 26 a j := by
        intro j hj
        rw [am_sr_at, if_pos ⟨rfl, rfl⟩]
        unfold va_cpy
        rw [if_pos ⟨by omega, by omega⟩]; simp
      refine (fun (z : Q none (am_sr M' 26 b (va_cpy (M'.1 26 a) (M'.1 26 b) 0 0 48))) => z) ?_
      refine h _ ⟨⟨ho.1.1, fun f i k hf => ?_⟩, fun p j q => ?_, fun p j q => ?_, fun t j q => ?_⟩ ⟨?_, ?_, fun k hk j hj => ?_, fun s e hs he => ?_⟩
      · rw [am_sr_at, if_neg (fun z => hf (by rw [z.1]; simp))]; exact ho.1.2 f i k hf
      · rw [am_sr_at, if_neg (by omega)]; exact ho.2.1 p j q
      · rw [am_sr_at, if_neg (fun z => q z.2)]; exact ho.2.2.1 p j q
      · rw [am_sr_at, if_neg (by omega)]; exact ho.2.2.2 t j q
      · rw [am_sr_at, if_neg (by omega)]; exact h0
      · rw [am_sr_at, if_neg (by omega)]; exact h1
      · rw [am_sr_at, if_neg (by omega)]; exact hdone k hk j hj
      · obtain ⟨p1, p2⟩ := hP s hs
        refine (hrow _ (by omega)).trans ((ho.2.2.1 a _ hab).trans (w4 s e hs he))
    | succ r ih =>
      intro k hk M' ho h0 h1 hdone
      have hsrc : ∀ j, j < 9 → M'.1 27 (6 * a + k) j = wd_t w k j := fun j hj => (ho.2.2.2 _ j (by omega)).trans (w3 k (by omega) j hj)
      refine am_go hX [10] 40 ?_
      refine ⟨fun (q : M'.1 24 b 1 ≤ nI k) => absurd q (by rw [h1]; exact nI_ge (by omega) (by omega)), fun _ => ?_⟩
      refine ⟨k, by show k < 6; omega, rfl, k, by show k < 6; omega, rfl, am_cc hd (cw_tcopy hX _ _ (6 * a + k) (6 * b + k) ?_ _ (fun M2 hr => ?_))⟩
      · rw [hsrc 8 (by omega)]; exact (o3 k (by omega)).2.2.2.2.2.2
      · refine (fun (z : X d 65 10 [some (.inr (.inl (24, b))), some (.inr (.inl (24, a))), some (.inl (nI k + 1))] [] M2 Q) => z) ?_
        rw [nI_1]
        refine ih (k + 1) (by omega) M2 (ck_only_27 ho (by omega) hr) ((hr.1.2 24 b 0 (by simp)).trans h0) ((hr.1.2 24 b 1 (by simp)).trans h1) (fun k' hk' j hj => ?_)
        rw [hr.2]
        by_cases z : k' = k
        · subst z; rw [if_pos ⟨rfl, hj⟩]; exact hsrc j hj
        · rw [if_neg (by omega)]; exact hdone k' (by omega) j hj
  refine loop (wd_n w) 0 (by omega) _ (ck_only_24 (ck_only_24 (ck_only_rf b M))) ?_ ?_ (fun k' hk' => by omega)
  · rw [am_si_at, if_neg (by omega), am_si_at, if_pos ⟨rfl, rfl, rfl⟩]
  · rw [am_si_at, if_pos ⟨rfl, rfl, rfl⟩]
theorem cw_dotPicked {X : am_X} (hX : am_Cl X) (d : Nat) (M : am_M) (j k n : Nat) (hn : n ≤ 4) (ps : List Nat) (hpl : ps.length = n) (hp : ∀ e, e < n → M.1 23 j e = nI (am_nth ps e 9)) (hpb : ∀ e, e < n → am_nth ps e 9 < 8) (hk : k < 8) (Q : am_P)
    (h1 : ∀ e, e < n → jp_at ps k = some e → Q (some (.inl (nI e))) M) (h0 : jp_at ps k = none → Q (some (.inl (-1))) M) : X d 63 0 [some (.inr (.inl (22, j))), some (.inl (nI k)), some (.inl (nI n)), none] [] M Q := by
  refine am_go hX [2] 40 ?_
  have loop : ∀ r e : Nat, e + r = n → jp_f ps k r e = jp_at ps k → X d 63 2 [some (.inr (.inl (22, j))), some (.inl (nI k)), some (.inl (nI n)), some (.inl (nI e))] [] M Q := by
    intro r
    induction r with
    | zero =>
      intro e he hf
      have he : e = n := by omega
      subst he
      refine am_go hX [2] 40 ?_
      exact ⟨fun _ => h0 hf.symm, fun (q : ¬ nI e ≤ nI e) => absurd (nI_le (Nat.le_refl _) (by omega)) q⟩
    | succ r ih =>
      intro e he hf
      refine am_go hX [2] 40 ?_
      refine ⟨fun (q : nI n ≤ nI e) => absurd q (nI_ge (by omega) (by omega)), fun _ => ?_⟩
      have hb := hpb e (by omega)
      refine ⟨e, by show e < 4; omega, rfl, fun (q : ¬ M.1 23 j e = nI k) => ?_, fun (q : ¬ ¬ M.1 23 j e = nI k) => ?_⟩
      · rw [hp e (by omega)] at q
        refine (fun (z : X d 63 2 [some (.inr (.inl (22, j))), some (.inl (nI k)), some (.inl (nI n)), some (.inl (nI e + 1))] [] M Q) => z) ?_
        rw [nI_1]
        refine ih (e + 1) (by omega) ?_
        rw [jp_f, if_neg (fun z => q (by rw [z]))] at hf; exact hf
      · have q := Classical.not_not.mp q
        rw [hp e (by omega)] at q
        have q := (nI_eq (by omega) (by omega)).mp q
        rw [jp_f, if_pos q] at hf
        exact h1 e (by omega) hf.symm
  exact loop n 0 (by omega) (by unfold jp_at; rw [hpl])
theorem cw_addTrack {X : am_X} (hX : am_Cl X) (d : Nat) (M : am_M) (hd : 1 ≤ d) (p n : Nat) (hn : n < 6) (h1 : M.1 24 p 1 = nI n) (x y m k : Int32) (Q : am_P) (h : ∀ M', ck_row M M' (6 * p + n) (fun j => match j with
    | 0 => x | 1 => y | 4 => m | 5 => 1 | 7 => k | _ => 0) → Q (some (.inl (nI n))) (am_si M' 24 p 1 (nI (n + 1)))) : X d 67 0 [some (.inr (.inl (24, p))), some (.inl (x)), some (.inl (y)), some (.inl (m)), some (.inl (k))] [] M Q := by
  refine am_go hX [] 40 ?_
  refine ⟨fun _ => ?_, fun (q : ¬ M.1 24 p 1 < 6) => absurd (by rw [h1]; exact nI_lt (b := 6) hn (by decide)) q⟩
  refine ⟨n, hn, h1, am_cc hd (cw_begin hX _ _ _ _ _ _ _ _ (fun M' hr => ?_))⟩
  have e1 : M'.1 24 p 1 = nI n := (hr.1.2 24 p 1 (by simp)).trans h1
  have := h M' hr
  refine (fun (z : Q (some (.inl ((am_si M' 24 p 1 (M'.1 24 p 1 + 1)).1 24 p 1 - 1))) (am_si M' 24 p 1 (M'.1 24 p 1 + 1))) => z) ?_
  rw [am_si_at, if_pos ⟨rfl, rfl, rfl⟩, e1, nI_1, nI_pred]
  exact this
theorem tk_hit_eq (τ : ta) (t r : Nat → Int32) (s e : Nat) (h : ∀ j, j < 9 → r j = t j) : ∀ j, j < 9 → ck_hit r (ta_rx τ s e) (ta_ry τ s e) (nI (ta_mo τ s)) (nI (ta_dm τ s e)) j = tk_hit τ t s e j := by
  intro j hj
  match j, hj with
  | 0, _ => rfl
  | 1, _ => rfl
  | 2, _ => simp only [ck_hit, tk_hit, h 4 (by omega), h 0 (by omega), h 2 (by omega)]
  | 3, _ => simp only [ck_hit, tk_hit, h 4 (by omega), h 1 (by omega), h 3 (by omega)]
  | 4, _ => rfl
  | 5, _ => simp only [ck_hit, tk_hit, h 5 (by omega)]
  | 6, _ => rfl
  | 7, _ => simp only [ck_hit, tk_hit, h 7 (by omega)]
  | 8, _ => simp only [ck_hit, tk_hit]; exact h 8 (by omega)
theorem tk_miss_eq (τ : ta) (t r : Nat → Int32) (h : ∀ j, j < 9 → r j = t j) : ∀ j, j < 9 → ck_miss r (nI (ta_ru τ 4)) j = tk_miss τ t j := by
  intro j hj
  unfold ck_miss tk_miss
  rw [h 8 (by omega)]
  by_cases z : t 8 = 0
  · rw [if_pos z, if_pos z]
    match j, hj with
    | 0, _ => exact h 0 (by omega)
    | 1, _ => exact h 1 (by omega)
    | 2, _ => exact h 2 (by omega)
    | 3, _ => exact h 3 (by omega)
    | 4, _ => exact h 4 (by omega)
    | 5, _ => exact h 5 (by omega)
    | 6, _ => simp only [h 6 (by omega)]
    | 7, _ => exact h 7 (by omega)
    | 8, _ => simp only [h 6 (by omega)]
  · rw [if_neg z, if_neg z]; exact h j hj
theorem jp_nb_le (ps : List Nat) {a b : Nat} (h : a ≤ b) : jp_nb ps a ≤ jp_nb ps b := by
  induction b with
  | zero => have : a = 0 := by omega
            subst this; exact Nat.le_refl _
  | succ b ih =>
    rcases Nat.lt_or_ge a (b + 1) with q | q
    · have := ih (by omega); simp only [jp_nb]; omega
    · have : a = b + 1 := by omega
      subst this; exact Nat.le_refl _
theorem jp_dot_at (ps : List Nat) {e : Nat} (he : e < ps.length) (h6 : am_nth ps e 9 = 6) : jp_dot ps (jp_nb ps e) = e := by
  have key : ∀ r x, x ≤ e → x + r = ps.length → jp_g ps (jp_nb ps e) r x = e := by
    intro r
    induction r with
    | zero => intro x h1 h2; omega
    | succ r ih =>
      intro x h1 h2
      rw [jp_g]
      by_cases z : x = e
      · subst z; rw [if_pos ⟨h6, rfl⟩]
      · rw [if_neg]
        · exact ih (x + 1) (by omega) (by omega)
        · rintro ⟨q1, q2⟩
          have h3 : jp_nb ps (x + 1) = jp_nb ps x + 1 := by rw [jp_nb, if_pos q1]
          have h4 := jp_nb_le ps (show x + 1 ≤ e by omega)
          omega
  exact key ps.length 0 (by omega) (by omega)
/-- picks that can be carried out in a world of n tracks -/
def jp_ok (n m : Nat) (ps : List Nat) : Prop := ps.length = m ∧ (∀ e, e < m → am_nth ps e 9 < n ∨ am_nth ps e 9 = 6 ∨ am_nth ps e 9 = 7) ∧ n + jp_nb ps m ≤ 6 ∧ n ≤ 6

set_option maxHeartbeats 1000000 in
theorem cw_apply {X : am_X} (hX : am_Cl X) (d : Nat) (M : am_M) (hd : 2 ≤ d) (τ : ta) (hτ : ta_ok τ) (hT : rc_T M τ) (s p j : Nat) (hs : s < ta_n τ) (hp : p < 8) (P : Nat → Prop) (hP : ∀ s, P s → s < ta_n τ) (w : wd) (hW : rc_W M τ P p w) (c : Nat) (ps : List Nat) (hj1 : M.1 22 j 1 = nI c) (hjp : ∀ e, e < ta_dn τ s → M.1 23 j e = nI (am_nth ps e 9)) (hok : jp_ok (wd_n w) (ta_dn τ s) ps) (Q : am_P)
    (h : ∀ M', ck_only p M M' → rc_W M' τ (fun s' => s' = s ∨ P s') p (wd_ap τ s w c ps) → Q none M') : X d 71 0 [some (.inr (.inl (24, p))), some (.inr (.inl (22, j))), some (.inr (.inl (1, 0))), some (.inl (nI s)), none, none, none, none, none] [] M Q := by
  obtain ⟨r1, r2, r3, r4, r5, r6, r7⟩ := id hT
  obtain ⟨sw, sm, sd, se⟩ := r5 s hs
  obtain ⟨w1, w2, w3, w4⟩ := id hW
  obtain ⟨k1, k2, k3, k4⟩ := hok
  obtain ⟨b1, b2, b3, b4⟩ := hτ.2.2.1 s hs
  have hn12 := hτ.1
  have hpb : ∀ e, e < ta_dn τ s → am_nth ps e 9 < 8 := fun e he => by have := k2 e he; omega
  refine am_go hX [10] 40 ?_
  refine ⟨s, by show s < 13; omega, rfl, ?_⟩
  refine (fun (z : X d 71 10 [some (.inr (.inl (24, p))), some (.inr (.inl (22, j))), some (.inr (.inl (1, 0))), some (.inl (nI s)), some (.inr (.inl (18, M.2.1 4 s))), some (.inl (M.1 24 p 1)), some (.inl (nI 0)), none, none] [] M Q) => z) ?_
  rw [w2]
  -- facts that stay
  have stay : ∀ M' : am_M, ck_only p M M' → M'.2 = M.2 ∧ M'.1 18 (M'.2.1 4 s) 0 = nI (ta_wt τ s) ∧ M'.1 18 (M.2.1 4 s) 1 = nI (ta_mo τ s) ∧ M'.1 18 (M.2.1 4 s) 2 = nI (ta_dn τ s) ∧ (∀ e, e < ta_dn τ s → M'.1 19 (M'.2.1 4 s) e + M'.1 2 0 (ta_wt τ s) = ta_rx τ s e ∧ M'.1 20 (M'.2.1 4 s) e + M'.1 3 0 (ta_wt τ s) = ta_ry τ s e ∧ M'.1 21 (M.2.1 4 s) e = nI (ta_dm τ s e)) := by
    intro M' ho
    have hV := ho.1.1
    refine ⟨hV, by rw [hV]; exact (ho.1.2 18 _ 0 (by simp)).trans sw, (ho.1.2 18 _ 1 (by simp)).trans sm, (ho.1.2 18 _ 2 (by simp)).trans sd, fun e he => ⟨?_, ?_, (ho.1.2 21 _ e (by simp)).trans (se e he).2.2⟩⟩
    · rw [hV, ho.1.2 19 _ e (by simp), ho.1.2 2 _ _ (by simp), (se e he).1, (r2 _ b1).1]; rfl
    · rw [hV, ho.1.2 20 _ e (by simp), ho.1.2 3 _ _ (by simp), (se e he).2.1, (r2 _ b1).2]; rfl
  have hap_lt : ∀ k, k < wd_n w → wd_t (wd_ap τ s w c ps) k = (match jp_at ps k with
      | some e => tk_hit τ (wd_t w k) s e
      | none => tk_miss τ (wd_t w k)) := fun k hk => if_pos hk
  have hap_ge : ∀ k, ¬ k < wd_n w → wd_t (wd_ap τ s w c ps) k = tk_new τ s (jp_dot ps (k - wd_n w)) := fun k hk => if_neg hk
  -- second loop: the dots
  have dots : ∀ r e : Nat, e + r = ta_dn τ s → ∀ M' : am_M, ck_only p M M' → M'.1 24 p 1 = nI (wd_n w + jp_nb ps e) → (∀ k, k < wd_n w + jp_nb ps e → ∀ i, i < 9 → M'.1 27 (6 * p + k) i = wd_t (wd_ap τ s w c ps) k i) →
      (∀ s' e', P s' → s' ≠ s → e' < ta_dn τ s' → M'.1 26 p (4 * s' + e') = wd_a w s' e') → (∀ e', e' < e → M'.1 26 p (4 * s + e') = jp_ac (wd_n w) ps e') → ∀ z7 z8, X d 71 54 [some (.inr (.inl (24, p))), some (.inr (.inl (22, j))), some (.inr (.inl (1, 0))), some (.inl (nI s)), some (.inr (.inl (18, M.2.1 4 s))), some (.inl (nI (wd_n w))), some (.inl (nI e)), z7, z8] [] M' Q := by
    intro r
    induction r with
    | zero =>
      intro e he M' ho hcnt htr hac1 hac2 z7 z8
      have he : e = ta_dn τ s := by omega
      subst he
      obtain ⟨hV, t1, t2, t3, t4⟩ := stay M' ho
      refine am_go hX [54] 40 ?_
      refine ⟨fun _ => ?_, fun (q : ¬ M'.1 18 (M.2.1 4 s) 2 ≤ nI (ta_dn τ s)) => absurd (by rw [t3]; exact nI_le (Nat.le_refl _) (by omega)) q⟩
      refine (fun (z : Q none (am_si M' 24 p 0 (M'.1 22 j 1))) => z) ?_
      rw [ho.1.2 22 j 1 (by simp), hj1]
      refine h _ (ck_only_24 ho) ⟨?_, ?_, fun k hk i hi => ?_, fun s' e' hs' he' => ?_⟩
      · rw [am_si_at, if_pos ⟨rfl, rfl, rfl⟩]; rfl
      · rw [am_si_at, if_neg (by omega), hcnt, ← k1]; rfl
      · rw [am_si_at, if_neg (by omega)]
        exact htr k (by rw [← k1]; exact hk) i hi
      · rw [am_si_at, if_neg (by omega)]
        by_cases z : s' = s
        · subst z
          show _ = (if s' = s' then jp_ac (wd_n w) ps e' else wd_a w s' e')
          rw [if_pos rfl]; exact hac2 e' he'
        · show _ = (if s' = s then jp_ac (wd_n w) ps e' else wd_a w s' e')
          rw [if_neg z]; exact hac1 s' e' (hs'.resolve_left z) z he'
    | succ r ih =>
      intro e he M' ho hcnt htr hac1 hac2 z7 z8
      have hen : e < ta_dn τ s := by omega
      obtain ⟨hV, t1, t2, t3, t4⟩ := stay M' ho
      obtain ⟨x1, x2, x3⟩ := t4 e hen
      have epk : M'.1 23 j e = nI (am_nth ps e 9) := (ho.1.2 23 j e (by simp)).trans (hjp e hen)
      have ix : 4 * nI s + nI e = nI (4 * s + e) := by rw [show (4 : Int32) = nI 4 from rfl, pk_mul, nI_add]
      -- behind the account
      have nxt : ∀ (M2 : am_M) (v : Int32), v = jp_ac (wd_n w) ps e → ck_only p M M2 → M2.1 24 p 1 = nI (wd_n w + jp_nb ps (e + 1)) → (∀ k, k < wd_n w + jp_nb ps (e + 1) → ∀ i, i < 9 → M2.1 27 (6 * p + k) i = wd_t (wd_ap τ s w c ps) k i) → (∀ q, M2.1 26 p q = M'.1 26 p q) → ∀ z7, X d 71 91 [some (.inr (.inl (24, p))), some (.inr (.inl (22, j))), some (.inr (.inl (1, 0))), some (.inl (nI s)), some (.inr (.inl (18, M.2.1 4 s))), some (.inl (nI (wd_n w))), some (.inl (nI e)), z7, some (.inl (v))] [] M2 Q := by
        intro M2 v hv ho2 hc2 ht2 ha2 z7
        refine am_go hX [54] 40 ?_
        refine ⟨4 * s + e, by show 4 * s + e < 48; omega, ix, ?_⟩
        refine (fun (z : X d 71 54 [some (.inr (.inl (24, p))), some (.inr (.inl (22, j))), some (.inr (.inl (1, 0))), some (.inl (nI s)), some (.inr (.inl (18, M.2.1 4 s))), some (.inl (nI (wd_n w))), some (.inl (nI e + 1)), z7, some (.inl (v))] [] (am_si M2 26 p (4 * s + e) v) Q) => z) ?_
        rw [nI_1]
        refine ih (e + 1) (by omega) _ (ck_only_26 ho2) ?_ (fun k hk i hi => ?_) (fun s' e' h1 h2 h3 => ?_) (fun e' he' => ?_) _ _
        · rw [am_si_at, if_neg (by omega)]; exact hc2
        · rw [am_si_at, if_neg (by omega)]; exact ht2 k hk i hi
        · have := (hτ.2.2.1 s' (hP s' h1)).2.2.1
          rw [am_si_at, if_neg (by omega), ha2]; exact hac1 s' e' h1 h2 h3
        · rw [am_si_at]
          by_cases z : e' = e
          · subst z; rw [if_pos ⟨rfl, rfl, rfl⟩]; exact hv
          · rw [if_neg (by omega), ha2]; exact hac2 e' (by omega)
      refine am_go hX [54, 91] 60 ?_
      refine ⟨fun (q : M'.1 18 (M.2.1 4 s) 2 ≤ nI e) => absurd q (by rw [t3]; exact nI_ge hen (by omega)), fun _ => ?_⟩
      refine ⟨e, by show e < 4; omega, rfl, ?_⟩
      have hb8 := hpb e hen
      have hle := jp_nb_le ps (show e + 1 ≤ ta_dn τ s by omega)
      refine ⟨fun (q : ¬ M'.1 23 j e = 6) => ?_, fun (q : ¬ ¬ M'.1 23 j e = 6) => ?_⟩
      · have q6 : am_nth ps e 9 ≠ 6 := fun z => q (by rw [epk, z]; rfl)
        have hnb : jp_nb ps (e + 1) = jp_nb ps e := by rw [jp_nb, if_neg q6, Nat.add_zero]
        refine ⟨fun (q2 : ¬ M'.1 23 j e = 7) => ?_, fun (q2 : ¬ ¬ M'.1 23 j e = 7) => ?_⟩
        · have q7 : am_nth ps e 9 ≠ 7 := fun z => q2 (by rw [epk, z]; rfl)
          refine nxt M' _ ?_ ho (by rw [hnb]; exact hcnt) (by rw [hnb]; exact htr) (fun _ => rfl) _
          show M'.1 23 j e = _
          unfold jp_ac; rw [if_neg q7, if_neg q6, epk]
        · have q2 := Classical.not_not.mp q2
          rw [epk] at q2
          have q7 : am_nth ps e 9 = 7 := (nI_eq (b := 7) (by omega) (by decide)).mp q2
          refine nxt M' (-1) ?_ ho (by rw [hnb]; exact hcnt) (by rw [hnb]; exact htr) (fun _ => rfl) _
          unfold jp_ac; rw [if_pos q7]
      · have q := Classical.not_not.mp q
        rw [epk] at q
        have q6 : am_nth ps e 9 = 6 := (nI_eq (b := 6) (by omega) (by decide)).mp q
        have hnb : jp_nb ps (e + 1) = jp_nb ps e + 1 := by rw [jp_nb, if_pos q6]
        refine am_cc (by omega) (cw_rightX hX _ _ s e (ta_wt τ s) (by omega) (by omega) b1 t1 _ ?_)
        rw [x1]
        refine am_cc (by omega) (cw_rightY hX _ _ s e (ta_wt τ s) (by omega) (by omega) b1 t1 _ ?_)
        rw [x2]
        refine ⟨e, by show e < 4; omega, rfl, am_cc (by omega) (cw_addTrack hX _ _ (by omega) p (wd_n w + jp_nb ps e) (by omega) hcnt _ _ _ _ _ (fun M2 hr => ?_))⟩
        have hrow : ∀ i, i < 9 → (fun i => match i with
            | 0 => ta_rx τ s e | 1 => ta_ry τ s e | 4 => M'.1 18 (M.2.1 4 s) 1 | 5 => 1 | 7 => M'.1 21 (M.2.1 4 s) e | _ => 0 : Nat → Int32) i = wd_t (wd_ap τ s w c ps) (wd_n w + jp_nb ps e) i := by
          intro i hi
          rw [hap_ge _ (by omega), show wd_n w + jp_nb ps e - wd_n w = jp_nb ps e by omega, jp_dot_at ps (by omega) q6]
          match i, hi with
          | 0, _ => rfl
          | 1, _ => rfl
          | 2, _ => rfl
          | 3, _ => rfl
          | 4, _ => exact t2
          | 5, _ => rfl
          | 6, _ => rfl
          | 7, _ => exact x3
          | 8, _ => rfl
        refine nxt (am_si M2 24 p 1 (nI (wd_n w + jp_nb ps e + 1))) (nI (wd_n w + jp_nb ps e)) ?_ (ck_only_24 (ck_only_27 ho (by omega) hr)) ?_ (fun k hk i hi => ?_) (fun q => ?_) _
        · unfold jp_ac; rw [if_neg (by omega), if_pos q6]
        · rw [am_si_at, if_pos ⟨rfl, rfl, rfl⟩, hnb]; rfl
        · rw [am_si_at, if_neg (by omega), hr.2]
          by_cases z : k = wd_n w + jp_nb ps e
          · subst z; rw [if_pos ⟨rfl, hi⟩]; exact hrow i hi
          · rw [if_neg (by omega)]; exact htr k (by omega) i hi
        · rw [am_si_at, if_neg (by omega)]; exact hr.1.2 26 p q (by simp)
  -- first loop: the tracks
  have trks : ∀ r k : Nat, k + r = wd_n w → ∀ M' : am_M, ck_only p M M' → M'.1 24 p 1 = nI (wd_n w) → (∀ k', k' < k → ∀ i, i < 9 → M'.1 27 (6 * p + k') i = wd_t (wd_ap τ s w c ps) k' i) → (∀ k', k ≤ k' → k' < wd_n w → ∀ i, i < 9 → M'.1 27 (6 * p + k') i = wd_t w k' i) → (∀ q, M'.1 26 p q = M.1 26 p q) → ∀ z7 z8, X d 71 10 [some (.inr (.inl (24, p))), some (.inr (.inl (22, j))), some (.inr (.inl (1, 0))), some (.inl (nI s)), some (.inr (.inl (18, M.2.1 4 s))), some (.inl (nI (wd_n w))), some (.inl (nI k)), z7, z8] [] M' Q := by
    intro r
    induction r with
    | zero =>
      intro k hk M' ho hcnt hdone hrest hac z7 z8
      have hk : k = wd_n w := by omega
      subst hk
      refine am_go hX [54] 40 ?_
      refine ⟨fun _ => ?_, fun (q : ¬ nI (wd_n w) ≤ nI (wd_n w)) => absurd (nI_le (Nat.le_refl _) (by omega)) q⟩
      exact dots (ta_dn τ s) 0 (by omega) M' ho hcnt hdone (fun s' e' h1 h2 h3 => (hac _).trans (w4 s' e' h1 h3)) (fun e' he' => by omega) _ _
    | succ r ih =>
      intro k hk M' ho hcnt hdone hrest hac z7 z8
      obtain ⟨hV, t1, t2, t3, t4⟩ := stay M' ho
      have hkn : k < wd_n w := by omega
      have nxt : ∀ (M2 : am_M) (rw_ : Nat → Int32), ck_row M' M2 (6 * p + k) rw_ → (∀ i, i < 9 → rw_ i = wd_t (wd_ap τ s w c ps) k i) → ∀ z7, X d 71 50 [some (.inr (.inl (24, p))), some (.inr (.inl (22, j))), some (.inr (.inl (1, 0))), some (.inl (nI s)), some (.inr (.inl (18, M.2.1 4 s))), some (.inl (nI (wd_n w))), some (.inl (nI k)), z7, z8] [] M2 Q := by
        intro M2 rw_ hr hrw z7
        refine am_go hX [10] 40 ?_
        refine (fun (z : X d 71 10 [some (.inr (.inl (24, p))), some (.inr (.inl (22, j))), some (.inr (.inl (1, 0))), some (.inl (nI s)), some (.inr (.inl (18, M.2.1 4 s))), some (.inl (nI (wd_n w))), some (.inl (nI k + 1)), z7, z8] [] M2 Q) => z) ?_
        rw [nI_1]
        refine ih (k + 1) (by omega) M2 (ck_only_27 ho (by omega) hr) ((hr.1.2 24 p 1 (by simp)).trans hcnt) (fun k' hk' i hi => ?_) (fun k' h1 h2 i hi => ?_) (fun q => (hr.1.2 26 p q (by simp)).trans (hac q)) _ _
        · rw [hr.2]
          by_cases z : k' = k
          · subst z; rw [if_pos ⟨rfl, hi⟩]; exact hrw i hi
          · rw [if_neg (by omega)]; exact hdone k' (by omega) i hi
        · rw [hr.2, if_neg (by omega)]; exact hrest k' (by omega) h2 i hi
      refine am_go hX [10, 50] 60 ?_
      refine ⟨fun (q : nI (wd_n w) ≤ nI k) => absurd q (nI_ge hkn (by omega)), fun _ => am_cc (by omega) ?_⟩
      refine (fun (z : X (d - 1) 63 0 [some (.inr (.inl (22, j))), some (.inl (nI k)), some (.inl (M'.1 18 (M.2.1 4 s) 2)), none] [] M' _) => z) ?_
      rw [t3]
      refine cw_dotPicked hX _ _ j k (ta_dn τ s) (by omega) ps k1 (fun e he => (ho.1.2 23 j e (by simp)).trans (hjp e he)) hpb (by omega) _ (fun e he hat => ?_) (fun hat => ?_)
      · obtain ⟨x1, x2, x3⟩ := t4 e he
        refine ⟨fun (q : nI e < 0) => absurd q (nI_pos (by omega)), fun _ => ?_⟩
        refine ⟨k, by show k < 6; omega, rfl, am_cc (by omega) (cw_rightX hX _ _ s e (ta_wt τ s) (by omega) (by omega) b1 t1 _ ?_)⟩
        rw [x1]
        refine am_cc (by omega) (cw_rightY hX _ _ s e (ta_wt τ s) (by omega) (by omega) b1 t1 _ ?_)
        rw [x2]
        refine ⟨e, by show e < 4; omega, rfl, am_cc (by omega) (cw_hit hX _ _ (by omega) (6 * p + k) _ _ _ _ _ (fun M2 hr => ?_))⟩
        refine nxt M2 _ hr (fun i hi => ?_) _
        show ck_hit (M'.1 27 (6 * p + k)) (ta_rx τ s e) (ta_ry τ s e) (M'.1 18 (M.2.1 4 s) 1) (M'.1 21 (M.2.1 4 s) e) i = _
        rw [t2, x3, hap_lt k hkn, hat]
        exact tk_hit_eq τ (wd_t w k) _ s e (fun i hi => hrest k (Nat.le_refl k) hkn i hi) i hi
      · refine ⟨fun _ => ?_, fun (q : ¬ (-1 : Int32) < 0) => absurd (by decide) q⟩
        refine ⟨k, by show k < 6; omega, rfl, 4, by show 4 < 6; omega, rfl, am_cc (by omega) (cw_miss hX _ _ (6 * p + k) _ _ (fun M2 hr => ?_))⟩
        refine nxt M2 _ hr (fun i hi => ?_) _
        show ck_miss (M'.1 27 (6 * p + k)) (M'.1 6 0 4) i = _
        rw [(ho.1.2 6 0 4 (by simp)).trans (r7 4 (by omega)), hap_lt k hkn, hat]
        exact tk_miss_eq τ (wd_t w k) _ (fun i hi => hrest k (Nat.le_refl k) hkn i hi) i hi
  exact trks (wd_n w) 0 (by omega) M (ck_only_rf p M) w2 (fun k' hk' => by omega) (fun k' _ hk' i hi => w3 k' hk' i hi) (fun _ => rfl) _ _
end
section
/-! joins are well made; worlds stay in their bounds -/
theorem jp_nb_c {a b : List Nat} : ∀ (e : Nat), (∀ i, i < e → am_nth a i 9 = am_nth b i 9) → jp_nb a e = jp_nb b e
  | 0, _ => rfl
  | e + 1, h => by
    simp only [jp_nb]
    rw [jp_nb_c e (fun i hi => h i (by omega)), h e (by omega)]
def jp_di (e : Nat) (ps : List Nat) : Prop := ∀ i j, i < j → j < e → am_nth ps i 9 = am_nth ps j 9 → 6 ≤ am_nth ps i 9
theorem jn_sub_ok (T : Nat → Nat → Option Nat) (nT miss birth fals : Nat) (hn6 : nT ≤ 6) (hm : miss ≤ 100000) (hb : birth ≤ 100000) (hf : fals ≤ 100000) (hT : ∀ k e t, T k e = some t → t ≤ 250000) : ∀ (r e c u b : Nat) (tak : Nat → Bool) (pre : List Nat), pre.length = e → (∀ i, i < e → am_nth pre i 9 < nT ∨ am_nth pre i 9 = 6 ∨ am_nth pre i 9 = 7) → b = jp_nb pre e → nT + b ≤ 6 → (∀ i, i < e → am_nth pre i 9 < nT → tak (am_nth pre i 9) = true) → jp_di e pre →
    ∀ x ∈ jn_sub T nT miss birth fals r e c u b tak pre, jp_ok nT (e + r) x.2 ∧ jp_di (e + r) x.2 ∧ x.1 ≤ c + r * 250000 + u * 100000
  | 0, e, c, u, b, tak, pre, hl, hp, hb', hb6, ht, hdi, x, hx => by
    simp only [jn_sub, List.mem_singleton] at hx
    subst hx
    refine ⟨⟨hl, hp, by rw [Nat.add_zero, ← hb']; exact hb6, hn6⟩, hdi, ?_⟩
    have := Nat.mul_le_mul_left u hm
    dsimp only; omega
  | r + 1, e, c, u, b, tak, pre, hl, hp, hb', hb6, ht, hdi, x, hx => by
    -- one pick more
    have step : ∀ (q : Nat) (tak' : Nat → Bool) (c' u' b' : Nat), (q < nT ∨ q = 6 ∨ q = 7) → b' = b + (if q = 6 then 1 else 0) → nT + b' ≤ 6 → (q < nT → ∀ i, i < e → am_nth pre i 9 ≠ q) → (∀ k, k < nT → (tak k = true ∨ k = q) → tak' k = true) → c' + u' * 100000 ≤ c + 250000 + u * 100000 →
        x ∈ jn_sub T nT miss birth fals r (e + 1) c' u' b' tak' (pre ++ [q]) → jp_ok nT (e + (r + 1)) x.2 ∧ jp_di (e + (r + 1)) x.2 ∧ x.1 ≤ c + (r + 1) * 250000 + u * 100000 := by
      intro q tak' c' u' b' hq hb1 hb2 hne htk hc hx
      have hpre : ∀ i, i < e → am_nth (pre ++ [q]) i 9 = am_nth pre i 9 := fun i hi => by rw [am_nth_snoc, if_pos (by omega)]
      have hlast : am_nth (pre ++ [q]) e 9 = q := by rw [am_nth_snoc, if_neg (by omega), if_pos (by omega)]
      have := jn_sub_ok T nT miss birth fals hn6 hm hb hf hT r (e + 1) c' u' b' tak' (pre ++ [q]) (by simp; omega) (fun i hi => ?_) ?_ hb2 (fun i hi hi2 => ?_) (fun i j hij hj hh => ?_) x hx
      · rw [show e + 1 + r = e + (r + 1) by omega] at this
        exact ⟨this.1, this.2.1, by have := this.2.2; omega⟩
      · by_cases z : i = e
        · rw [z, hlast]; exact hq
        · rw [hpre i (by omega)]; exact hp i (by omega)
      · rw [jp_nb, hlast, jp_nb_c e hpre, ← hb', hb1]
      · by_cases z : i = e
        · rw [z, hlast] at hi2 ⊢; exact htk q hi2 (Or.inr rfl)
        · rw [hpre i (by omega)] at hi2 ⊢; exact htk _ hi2 (Or.inl (ht i (by omega) hi2))
      · by_cases z : j = e
        · rw [z, hlast, hpre i (by omega)] at hh
          rw [hpre i (by omega), hh]
          rcases hq with w | w | w
          · exact absurd hh (hne w i (by omega))
          · omega
          · omega
        · rw [hpre i (by omega), hpre j (by omega)] at hh
          rw [hpre i (by omega)]; exact hdi i j hij (by omega) hh
    simp only [jn_sub, List.mem_append, List.mem_flatMap, List.mem_range] at hx
    rcases hx with ⟨k, hk, hx⟩ | hx | hx
    · cases hTk : T k e with
      | none => rw [hTk] at hx; simp at hx
      | some t =>
        rw [hTk] at hx
        dsimp only at hx
        cases htk : tak k with
        | true => rw [htk] at hx; simp at hx
        | false =>
          rw [htk] at hx
          have := hT k e t hTk
          refine step k _ (c + t) (u - 1) b (Or.inl hk) ?_ hb6 (fun _ i hi q => ?_) (fun k' hk' q => ?_) ?_ hx
          · rw [if_neg (by omega)]; rfl
          · have := ht i hi (by rw [q]; exact hk)
            rw [q, htk] at this; cases this
          · rcases q with q | q
            · cases Nat.beq k' k with
              | true => rfl
              | false => exact q
            · rw [q, Nat.beq_refl]; rfl
          · have : (u - 1) * 100000 ≤ u * 100000 := Nat.mul_le_mul_right _ (by omega)
            omega
    · split at hx
      · refine step 6 tak (c + birth) u (b + 1) (Or.inr (Or.inl rfl)) (by simp) (by omega) (fun q => by omega) (fun k' hk' q => ?_) (by omega) hx
        rcases q with q | q
        · exact q
        · omega
      · simp at hx
    · refine step 7 tak (c + fals) u b (Or.inr (Or.inr rfl)) (by simp) (by omega) (fun q => by omega) (fun k' hk' q => ?_) (by omega) hx
      rcases q with q | q
      · exact q
      · omega
theorem jn_sub_ne (T : Nat → Nat → Option Nat) (nT miss birth fals : Nat) : ∀ (r e c u b : Nat) (tak : Nat → Bool) (pre : List Nat), jn_sub T nT miss birth fals r e c u b tak pre ≠ []
  | 0, e, c, u, b, tak, pre => by simp [jn_sub]
  | r + 1, e, c, u, b, tak, pre => by
    have := jn_sub_ne T nT miss birth fals r (e + 1) (c + fals) u b tak (pre ++ [7])
    simp only [jn_sub]
    intro q
    rw [List.append_eq_nil_iff, List.append_eq_nil_iff] at q
    exact this q.2.2
theorem tk_toll_le {τ : ta} (hτ : ta_ok τ) {t : Nat → Int32} {s e x : Nat} (h : tk_toll τ t s e = some x) : x ≤ 250000 ∧ t 8 = 0 := by
  unfold tk_toll at h
  split at h
  · rename_i z
    cases h
    have := Nat.mul_le_mul hτ.2.2.2.2.1 hτ.2.2.2.2.1
    exact ⟨by omega, z.1⟩
  · cases h
theorem wd_lk_le (t : Nat → Nat → Int32) : ∀ n, wd_lk t n ≤ n
  | 0 => Nat.le_refl 0
  | n + 1 => by have := wd_lk_le t n; rw [wd_lk]; split <;> omega
theorem jn_all_ok {τ : ta} (hτ : ta_ok τ) {s m0 : Nat} (hs : s < ta_n τ) {w : wd} (hw : wd_ok m0 w) : ∀ x ∈ jn_all τ s w, jp_ok (wd_n w) (ta_dn τ s) x.2 ∧ jp_di (ta_dn τ s) x.2 ∧ x.1 ≤ 1600000 * (m0 + 1) := by
  intro x hx
  obtain ⟨-, ru1, ru2, ru3, -⟩ := hτ.2.2.2.2
  have h4 := (hτ.2.2.1 s hs).2.2.1
  have := jn_sub_ok _ (wd_n w) (ta_ru τ 1) (ta_ru τ 2) (ta_ru τ 3) hw.1 ru1 ru2 ru3 (fun k e t h => (tk_toll_le hτ h).1) (ta_dn τ s) 0 (wd_c w) _ 0 _ [] rfl (fun i hi => by omega) rfl (by have := hw.1; omega) (fun i hi => by omega) (fun i j h1 h2 => by omega) x hx
  rw [Nat.zero_add] at this
  have hl := wd_lk_le (wd_t w) (wd_n w)
  have h6 := hw.1
  have h7 := hw.2.1
  exact ⟨this.1, this.2.1, by have := this.2.2; omega⟩
theorem iz_msb (x : Int32) : x.toBitVec.msb = decide (x.toInt < 0) := BitVec.msb_eq_toInt
theorem iz_xor {x y : Int32} (hy : 0 < y.toInt) : 0 ≤ x ^^^ y ↔ 0 ≤ x.toInt := by
  have h1 : (x ^^^ y).toBitVec.msb = (x.toBitVec.msb ^^ y.toBitVec.msb) := by
    rw [Int32.toBitVec_xor, BitVec.msb_xor]
  rw [iz_msb, iz_msb, iz_msb] at h1
  have hy' : decide (y.toInt < 0) = false := by simp; omega
  rw [hy', Bool.xor_false] at h1
  rw [Int32.le_iff_toInt_le, Int32.toInt_zero]
  have : (x ^^^ y).toInt < 0 ↔ x.toInt < 0 := by
    constructor
    · intro q
      have : decide ((x ^^^ y).toInt < 0) = true := by simpa using q
      rw [h1] at this; simpa using this
    · intro q
      have : decide (x.toInt < 0) = true := by simpa using q
      rw [← h1] at this; simpa using this
  omega
theorem iz_div {x y : Int32} {b : Int} (hb : b < 2147483648) (h1 : -b ≤ x.toInt) (h2 : x.toInt ≤ b) (hy : 0 < y.toInt) : (x / y).toInt = x.toInt.tdiv y.toInt := by
  rw [Int32.toInt_div, Int.bmod_def]
  have h3 : x.toInt.tdiv y.toInt ≤ b ∧ -b ≤ x.toInt.tdiv y.toInt := by
    have := Int.natAbs_tdiv_le_natAbs x.toInt y.toInt
    omega
  split <;> omega
/-- the quotient, cut down: the same by the class's and by the reference's way -/
theorem lb_fd_bd {x y : Int32} {b : Int} (hb : b < 2147483647) (h1 : -b ≤ x.toInt) (h2 : x.toInt ≤ b) (hy : 0 < y.toInt) : -b ≤ (lb_fd x y).toInt ∧ (lb_fd x y).toInt ≤ b ∧ lb_fd x y = if x < x / y * y then x / y - 1 else x / y := by
  have hd := iz_div (b := b) (by omega) h1 h2 hy
  have hm := Int.tdiv_mul_add_tmod x.toInt y.toInt
  have hn := Int.natAbs_tdiv_le_natAbs x.toInt y.toInt
  have hp : (x / y * y).toInt = x.toInt.tdiv y.toInt * y.toInt := by
    have hr : (x.toInt.tdiv y.toInt * y.toInt).natAbs ≤ x.toInt.natAbs := by
      rw [Int.natAbs_mul, Int.natAbs_tdiv]
      exact Nat.div_mul_le_self _ _
    rw [iz_mul (by rw [hd]; omega) (by rw [hd]; omega), hd]
  unfold lb_fd
  have hlt : (x < x / y * y) ↔ (x.toInt < x.toInt.tdiv y.toInt * y.toInt) := by rw [Int32.lt_iff_toInt_lt, hp]
  by_cases hx : 0 ≤ x.toInt
  · rw [if_pos ((iz_xor hy).mpr hx)]
    have ht := Int.tmod_nonneg y.toInt hx
    rw [if_neg (fun z => by have := hlt.mp z; omega)]
    exact ⟨by omega, by omega, rfl⟩
  · rw [if_neg (fun q => hx ((iz_xor hy).mp q))]
    have ht : x.toInt.tmod y.toInt ≤ 0 := by
      have := Int.tmod_nonneg y.toInt (show 0 ≤ -x.toInt by omega)
      rw [Int.neg_tmod] at this; omega
    by_cases he : x / y * y = x
    · rw [if_pos he]
      have : x.toInt.tdiv y.toInt * y.toInt = x.toInt := by rw [← hp, he]
      rw [if_neg (fun z => by have := hlt.mp z; omega)]
      exact ⟨by omega, by omega, rfl⟩
    · rw [if_neg he]
      have hne : x.toInt.tdiv y.toInt * y.toInt ≠ x.toInt := fun q => he (iz_ext (by rw [hp, q]))
      rw [if_pos (hlt.mpr (by omega))]
      have hq : x.toInt.tdiv y.toInt ≤ 0 := by
        have e : (-x.toInt).tdiv y.toInt = -(x.toInt.tdiv y.toInt) := Int.neg_tdiv ..
        have := Int.tdiv_nonneg (show 0 ≤ -x.toInt by omega) (show 0 ≤ y.toInt by omega)
        omega
      have h1' : (1 : Int32).toInt = 1 := by decide
      have hlow : -b < x.toInt.tdiv y.toInt ∨ y.toInt = 1 := by
        rcases Int.lt_or_le 1 y.toInt with z | z
        · left
          have e : (-x.toInt).tdiv y.toInt = -(x.toInt.tdiv y.toInt) := Int.neg_tdiv ..
          have h3 : (x.toInt.tdiv y.toInt * y.toInt) ≥ x.toInt := by omega
          rcases Int.lt_or_le (-b) (x.toInt.tdiv y.toInt) with w | w
          · exact w
          · have h5 : x.toInt.tdiv y.toInt * y.toInt ≤ (-b) * y.toInt := Int.mul_le_mul_of_nonneg_right w (by omega)
            have h6 : (-b) * y.toInt ≤ (-b) * 2 := Int.mul_le_mul_of_nonpos_left (show (-b) ≤ 0 by omega) (by omega)
            omega
        · right; omega
      have hs : (x / y - 1).toInt = x.toInt.tdiv y.toInt - 1 := by rw [iz_sub (by rw [hd, h1']; omega) (by rw [hd, h1']; omega), hd, h1']
      refine ⟨?_, by rw [hs]; omega, rfl⟩
      rw [hs]
      rcases hlow with z | z
      · omega
      · rw [z, Int.mul_one, Int.tdiv_one] at hne
        exact absurd rfl hne

/-- tracks stay in their bounds -/
theorem tk_hit_ok {τ : ta} (hτ : ta_ok τ) {t : Nat → Int32} (ht : tk_ok t) {s e : Nat} (hs : s < ta_n τ) (he : e < ta_dn τ s) : tk_ok (tk_hit τ t s e) := by
  obtain ⟨bx, by_⟩ := ta_rx_bd hτ hs he
  obtain ⟨t0, t1, t2, t3, t4, t7, t8⟩ := ht
  obtain ⟨b1, b2, b3, b4⟩ := hτ.2.2.1 s hs
  have hmo : (nI (ta_mo τ s)).toInt = (ta_mo τ s : Int) := nI_toInt (by omega)
  have hdm : (nI (ta_dm τ s e)).toInt = (ta_dm τ s e : Int) := nI_toInt (by have := (b4 e he).2.2; omega)
  unfold ta_in at *
  have hdd : (nI (ta_mo τ s) - t 4).toInt = (ta_mo τ s : Int) - (t 4).toInt := by rw [iz_sub (by rw [hmo]; omega) (by rw [hmo]; omega), hmo]
  refine ⟨bx, by_, ?_, ?_, ?_, ?_, t8⟩
  · show -2100 ≤ (if 0 < nI (ta_mo τ s) - t 4 then lb_fd (ta_rx τ s e - t 0) (nI (ta_mo τ s) - t 4) else t 2).toInt ∧ (if 0 < nI (ta_mo τ s) - t 4 then lb_fd (ta_rx τ s e - t 0) (nI (ta_mo τ s) - t 4) else t 2).toInt ≤ 2100
    split
    · rename_i z
      rw [Int32.lt_iff_toInt_lt, Int32.toInt_zero] at z
      have e2 : (ta_rx τ s e - t 0).toInt = (ta_rx τ s e).toInt - (t 0).toInt := iz_sub (by omega) (by omega)
      have := lb_fd_bd (b := 2100) (by omega) (show -2100 ≤ (ta_rx τ s e - t 0).toInt by rw [e2]; omega) (by rw [e2]; omega) z
      exact ⟨this.1, this.2.1⟩
    · exact t2
  · show -2100 ≤ (if 0 < nI (ta_mo τ s) - t 4 then lb_fd (ta_ry τ s e - t 1) (nI (ta_mo τ s) - t 4) else t 3).toInt ∧ (if 0 < nI (ta_mo τ s) - t 4 then lb_fd (ta_ry τ s e - t 1) (nI (ta_mo τ s) - t 4) else t 3).toInt ≤ 2100
    split
    · rename_i z
      rw [Int32.lt_iff_toInt_lt, Int32.toInt_zero] at z
      have e2 : (ta_ry τ s e - t 1).toInt = (ta_ry τ s e).toInt - (t 1).toInt := iz_sub (by omega) (by omega)
      have := lb_fd_bd (b := 2100) (by omega) (show -2100 ≤ (ta_ry τ s e - t 1).toInt by rw [e2]; omega) (by rw [e2]; omega) z
      exact ⟨this.1, this.2.1⟩
    · exact t3
  · show 0 ≤ (nI (ta_mo τ s)).toInt ∧ (nI (ta_mo τ s)).toInt ≤ 999
    rw [hmo]; omega
  · show 0 ≤ (if t 7 = 0 then nI (ta_dm τ s e) else t 7).toInt ∧ (if t 7 = 0 then nI (ta_dm τ s e) else t 7).toInt ≤ 9
    split
    · rw [hdm]; have := (b4 e he).2.2; omega
    · exact t7
theorem tk_miss_ok {τ : ta} {t : Nat → Int32} (ht : tk_ok t) : tk_ok (tk_miss τ t) := by
  obtain ⟨t0, t1, t2, t3, t4, t7, t8⟩ := ht
  unfold tk_miss
  split
  · refine ⟨t0, t1, t2, t3, t4, t7, ?_⟩
    show (if nI (ta_ru τ 4) ≤ t 6 + 1 then (1 : Int32) else 0) = 0 ∨ (if nI (ta_ru τ 4) ≤ t 6 + 1 then (1 : Int32) else 0) = 1
    split
    · exact Or.inr rfl
    · exact Or.inl rfl
  · exact ⟨t0, t1, t2, t3, t4, t7, t8⟩
theorem tk_new_ok {τ : ta} (hτ : ta_ok τ) {s e : Nat} (hs : s < ta_n τ) (he : e < ta_dn τ s) : tk_ok (tk_new τ s e) := by
  obtain ⟨bx, by_⟩ := ta_rx_bd hτ hs he
  obtain ⟨b1, b2, b3, b4⟩ := hτ.2.2.1 s hs
  have hmo : (nI (ta_mo τ s)).toInt = (ta_mo τ s : Int) := nI_toInt (by omega)
  have hdm : (nI (ta_dm τ s e)).toInt = (ta_dm τ s e : Int) := nI_toInt (by have := (b4 e he).2.2; omega)
  have h0 : (0 : Int32).toInt = 0 := by decide
  refine ⟨bx, by_, ?_, ?_, ?_, ?_, Or.inl rfl⟩
  · show -2100 ≤ (0 : Int32).toInt ∧ (0 : Int32).toInt ≤ 2100
    rw [h0]; omega
  · show -2100 ≤ (0 : Int32).toInt ∧ (0 : Int32).toInt ≤ 2100
    rw [h0]; omega
  · show 0 ≤ (nI (ta_mo τ s)).toInt ∧ (nI (ta_mo τ s)).toInt ≤ 999
    rw [hmo]; omega
  · show 0 ≤ (nI (ta_dm τ s e)).toInt ∧ (nI (ta_dm τ s e)).toInt ≤ 9
    rw [hdm]; have := (b4 e he).2.2; omega
theorem jp_f_lt {ps : List Nat} {k : Nat} : ∀ {r e x : Nat}, jp_f ps k r e = some x → e ≤ x ∧ x < e + r ∧ am_nth ps x 9 = k
  | 0, e, x, h => by simp [jp_f] at h
  | r + 1, e, x, h => by
    rw [jp_f] at h
    split at h
    · rename_i z; cases h; exact ⟨Nat.le_refl _, by omega, z⟩
    · have := jp_f_lt h; exact ⟨by omega, by omega, this.2.2⟩
theorem jp_g_lt {ps : List Nat} {j : Nat} : ∀ {r e : Nat}, jp_nb ps e ≤ j → j < jp_nb ps (e + r) → jp_g ps j r e < e + r ∧ am_nth ps (jp_g ps j r e) 9 = 6 ∧ jp_nb ps (jp_g ps j r e) = j
  | 0, e, h1, h2 => by simp at h2; omega
  | r + 1, e, h1, h2 => by
    rw [jp_g]
    split
    · rename_i z; exact ⟨by omega, z.1, z.2⟩
    · rename_i z
      have h3 : jp_nb ps (e + 1) ≤ j := by
        rw [jp_nb]
        split
        · rename_i w
          rcases Nat.lt_or_ge (jp_nb ps e) j with q | q
          · omega
          · exact absurd ⟨w, by omega⟩ z
        · omega
      have := jp_g_lt (ps := ps) (j := j) (r := r) (e := e + 1) h3 (by rw [show e + 1 + r = e + (r + 1) by omega]; exact h2)
      exact ⟨by omega, this.2⟩
theorem wd_ap_ok {τ : ta} (hτ : ta_ok τ) {s m0 c : Nat} (hs : s < ta_n τ) {w : wd} (hw : wd_ok m0 w) {ps : List Nat} (hok : jp_ok (wd_n w) (ta_dn τ s) ps) (hc : c ≤ 1600000 * (m0 + 1)) : wd_ok (m0 + 1) (wd_ap τ s w c ps) := by
  obtain ⟨k1, k2, k3, k4⟩ := hok
  refine ⟨by show wd_n w + jp_nb ps ps.length ≤ 6; rw [k1]; exact k3, hc, fun k hk => ?_⟩
  have hk : k < wd_n w + jp_nb ps ps.length := hk
  show tk_ok (if k < wd_n w then (match jp_at ps k with
      | some d => tk_hit τ (wd_t w k) s d
      | none => tk_miss τ (wd_t w k)) else tk_new τ s (jp_dot ps (k - wd_n w)))
  split
  · rename_i z
    cases hat : jp_at ps k with
    | none => exact tk_miss_ok (hw.2.2 k z)
    | some e =>
      have := jp_f_lt hat
      exact tk_hit_ok hτ (hw.2.2 k z) hs (by omega)
  · rename_i z
    have := jp_g_lt (ps := ps) (j := k - wd_n w) (r := ps.length) (e := 0) (by simp [jp_nb]) (by rw [Nat.zero_add]; omega)
    refine tk_new_ok hτ hs ?_
    have h2 := this.1
    show jp_g ps (k - wd_n w) ps.length 0 < _
    omega
/-- the best: sorted, no more than K, each one of those offered -/
theorem jn_put_mem {x y : jn} : ∀ {l : List jn}, y ∈ jn_put x l → y = x ∨ y ∈ l
  | [], h => by simp [jn_put] at h; exact Or.inl h
  | z :: l, h => by
    rw [jn_put] at h
    split at h
    · rcases List.mem_cons.mp h with h | h
      · exact Or.inr (by rw [h]; exact List.mem_cons_self)
      · rcases jn_put_mem h with h | h
        · exact Or.inl h
        · exact Or.inr (List.mem_cons_of_mem _ h)
    · rcases List.mem_cons.mp h with h | h
      · exact Or.inl h
      · exact Or.inr h
theorem jn_off_mem {K : Nat} {l : List jn} {x y : jn} (h : y ∈ jn_off K l x) : y = x ∨ y ∈ l := jn_put_mem (List.mem_of_mem_take h)
theorem jn_fold_mem {K : Nat} {y : jn} : ∀ {xs l : List jn}, y ∈ xs.foldl (jn_off K) l → y ∈ xs ∨ y ∈ l
  | [], l, h => Or.inr h
  | x :: xs, l, h => by
    rcases jn_fold_mem (xs := xs) (l := jn_off K l x) h with h | h
    · exact Or.inl (List.mem_cons_of_mem _ h)
    · rcases jn_off_mem h with h | h
      · exact Or.inl (by rw [h]; exact List.mem_cons_self)
      · exact Or.inr h
theorem jn_put_len (x : jn) : ∀ l, (jn_put x l).length = l.length + 1
  | [] => rfl
  | z :: l => by
    rw [jn_put]
    split
    · simp [jn_put_len x l]
    · simp
theorem jn_fold_len {K : Nat} (hK : 1 ≤ K) : ∀ {xs l : List jn}, l.length ≤ K → (xs.foldl (jn_off K) l).length ≤ K ∧ (1 ≤ l.length ∨ xs ≠ [] → 1 ≤ (xs.foldl (jn_off K) l).length)
  | [], l, h => ⟨h, fun q => q.elim id (fun z => absurd rfl z)⟩
  | x :: xs, l, h => by
    have h1 : (jn_off K l x).length ≤ K ∧ 1 ≤ (jn_off K l x).length := by
      unfold jn_off
      rw [List.length_take, jn_put_len]
      omega
    have := jn_fold_len hK (xs := xs) (l := jn_off K l x) h1.1
    exact ⟨this.1, fun _ => this.2 (Or.inl h1.2)⟩
theorem jn_fold_srt {K : Nat} (hK : 1 ≤ K) : ∀ {xs l : List jn}, l.length ≤ K → jn_srt l → jn_srt (xs.foldl (jn_off K) l)
  | [], l, h, hs => hs
  | x :: xs, l, h, hs => by
    have h1 : (jn_off K l x).length ≤ K := by
      unfold jn_off
      rw [List.length_take]; omega
    refine jn_fold_srt hK (xs := xs) (l := jn_off K l x) h1 ?_
    obtain ⟨a, a1, a2, a3⟩ := jn_pos l x.1 hs
    rcases Nat.lt_or_ge a K with q | q
    · exact jn_off_srt hs a1 a2 a3 q h
    · have hl : l.length = K := by omega
      rw [jn_off_no hs hK hl (a2 (K - 1) (by omega))]; exact hs
end
section
/-! the class takes a scan in -/
def rc_K (M : am_M) (τ : ta) (P : Nat → Prop) (m : Nat) (ws : List wd) : Prop :=
  M.1 8 0 1 = nI ws.length ∧ ws.length ≤ 4 ∧ M.2.1 8 0 < 2 ∧ M.2.1 8 2 = 1 - M.2.1 8 0 ∧ ∀ i, i < ws.length → rc_W M τ P (4 * M.2.1 8 0 + i) (am_nth ws i wd_0) ∧ wd_ok m (am_nth ws i wd_0)
def rc_G (M : am_M) (τ : ta) : Prop :=
  M.1 10 0 1 = nI (ta_ru τ 1) ∧ M.1 10 0 2 = nI (ta_ru τ 2) ∧ M.1 10 0 3 = nI (ta_ru τ 3) ∧ M.2.2.toInt = (ta_ru τ 0 * ta_ru τ 0 : Nat)
/-- what stays of the scratch cells -/
def rc_S (M : am_M) : Prop := (∀ k, k < 6 → M.1 16 0 k = 0) ∧ (∀ i, i < 4 → M.2.1 12 i < 4) ∧ ∀ i j, i < 4 → j < 4 → M.2.1 12 i = M.2.1 12 j → i = j
theorem jn_best_ok {τ : ta} (hτ : ta_ok τ) {s m : Nat} (hs : s < ta_n τ) {ws : List wd} (hw : ∀ i, i < ws.length → wd_ok m (am_nth ws i wd_0)) : (jn_best τ s ws).length ≤ ta_ru τ 5 ∧ (1 ≤ ws.length → 1 ≤ (jn_best τ s ws).length) ∧ ∀ x ∈ jn_best τ s ws, x.2.1 < ws.length ∧ jp_ok (wd_n (am_nth ws x.2.1 wd_0)) (ta_dn τ s) x.2.2 ∧ jp_di (ta_dn τ s) x.2.2 ∧ x.1 ≤ 1600000 * (m + 1) := by
  have hK := hτ.2.2.2.2.2.2.2.2.2
  have hl := jn_fold_len (K := ta_ru τ 5) hK.1 (xs := jn_of τ s ws) (l := []) (Nat.zero_le _)
  refine ⟨hl.1, fun h1 => hl.2 (Or.inr ?_), fun x hx => ?_⟩
  · intro q
    unfold jn_of at q
    rw [List.flatMap_eq_nil_iff] at q
    have := q 0 (List.mem_range.mpr h1)
    rw [List.map_eq_nil_iff] at this
    exact jn_sub_ne _ _ _ _ _ _ _ _ _ _ _ _ this
  · rcases jn_fold_mem hx with h | h
    · unfold jn_of at h
      obtain ⟨i, hi, h⟩ := List.mem_flatMap.mp h
      obtain ⟨c, hc, rfl⟩ := List.mem_map.mp h
      have hi := List.mem_range.mp hi
      exact ⟨hi, jn_all_ok hτ hs (hw i hi) c hc⟩
    · simp at h
theorem wd_step_ok {τ : ta} (hτ : ta_ok τ) {s m : Nat} (hs : s < ta_n τ) {ws : List wd} (hw : ∀ i, i < ws.length → wd_ok m (am_nth ws i wd_0)) : (wd_step τ s ws).length = (jn_best τ s ws).length ∧ ∀ i, i < (jn_best τ s ws).length → am_nth (wd_step τ s ws) i wd_0 = wd_ap τ s (am_nth ws (am_nth (jn_best τ s ws) i jn_0).2.1 wd_0) (am_nth (jn_best τ s ws) i jn_0).1 (am_nth (jn_best τ s ws) i jn_0).2.2 ∧ wd_ok (m + 1) (am_nth (wd_step τ s ws) i wd_0) := by
  have hb := jn_best_ok hτ hs hw
  refine ⟨by unfold wd_step; rw [List.length_map], fun i hi => ?_⟩
  have e : am_nth (wd_step τ s ws) i wd_0 = wd_ap τ s (am_nth ws (am_nth (jn_best τ s ws) i jn_0).2.1 wd_0) (am_nth (jn_best τ s ws) i jn_0).1 (am_nth (jn_best τ s ws) i jn_0).2.2 := by
    have key : ∀ (l : List jn) (f : jn → wd) (i : Nat), i < l.length → am_nth (l.map f) i wd_0 = f (am_nth l i jn_0) := by
      intro l f
      induction l with
      | nil => intro i h; simp at h
      | cons a l ih => intro i h; cases i with
        | zero => rfl
        | succ i => exact ih i (by simpa using h)
    exact key _ _ i hi
  refine ⟨e, ?_⟩
  obtain ⟨h1, h2, h3, h4⟩ := hb.2.2 _ (am_nth_in (d := jn_0) hi)
  rw [e]
  exact wd_ap_ok hτ hs (hw _ h1) h2 h4
set_option maxHeartbeats 1000000 in
theorem cw_takeIn {X : am_X} (hX : am_Cl X) (d : Nat) (M : am_M) (hd : 8 ≤ d) (τ : ta) (hτ : ta_ok τ) (hT : rc_T M τ) (s : Nat) (hs : s < ta_n τ) (P : Nat → Prop) (hP : ∀ s, P s → s < ta_n τ) (m : Nat) (hm : m < 12) (ws : List wd) (hK : rc_K M τ P m ws) (hG : rc_G M τ) (hS : rc_S M) (Q : am_P)
    (h : ∀ M', am_fg [8, 10, 11, 13, 14, 15, 16, 22, 23, 24, 26, 27] [8, 12] M M' → rc_K M' τ (fun s' => s' = s ∨ P s') (m + 1) (wd_step τ s ws) → rc_G M' τ → rc_S M' → Q none M') : X d 43 0 [some (.inr (.inl (8, 0))), some (.inr (.inl (1, 0))), some (.inl (nI s)), none, none, none] [] M Q := by
  obtain ⟨q1, q2, q3, q4, q5⟩ := id hK
  obtain ⟨r1, r2, r3, r4, r5, r6, r7⟩ := id hT
  have hK5 := hτ.2.2.2.2.2.2.2.2.2
  have hn12 := hτ.1
  have hb := jn_best_ok hτ hs (fun i hi => (q5 i hi).2)
  have hst := wd_step_ok hτ hs (fun i hi => (q5 i hi).2)
  have h4 := (hτ.2.2.1 s hs).2.2.1
  refine am_go hX [12] 40 ?_
  refine ⟨5, by show 5 < 6; omega, rfl, am_cc (by omega) ?_⟩
  refine (fun (z : X (d - 1) 55 0 [some (.inr (.inl (11, 0))), some (.inl (M.1 6 0 5))] [] M _) => z) ?_
  rw [r7 5 (by omega)]
  refine cw_open hX _ _ (by omega) (ta_ru τ 5) hK5 _ ?_
  generalize hM1 : am_si (am_si M 11 0 0 0) 11 0 1 (nI (ta_ru τ 5)) = M1
  have fr1 : am_fg [11] [] M M1 := by rw [← hM1]; exact am_fg_si (am_fg_si (am_fg_rf _ _ _) (by simp)) (by simp)
  have hL1 : cs_L M1 (ta_ru τ 5) (ta_dn τ s) [] := by
    refine ⟨by rw [← hM1, am_si_at, if_neg (by omega), am_si_at, if_pos ⟨rfl, rfl, rfl⟩]; rfl, by rw [← hM1, am_si_at, if_pos ⟨rfl, rfl, rfl⟩], Nat.zero_le _, hK5.1, hK5.2, fun i j _ hj => by simp at hj, fun i hi => ?_, fun i j hi hj q => ?_, fun i hi => by simp at hi⟩
    · rw [fr1.2.1 12 i (by simp)]; exact hS.2.1 i hi
    · rw [fr1.2.1 12 i (by simp), fr1.2.1 12 j (by simp)] at q; exact hS.2.2 i j hi hj q
  refine (fun (z : X d 43 12 [some (.inr (.inl (8, 0))), some (.inr (.inl (1, 0))), some (.inl (nI s)), some (.inr (.inl (11, 0))), some (.inl (nI 0)), none] [] M1 Q) => z) ?_
  generalize hf : (fun i => (jn_all τ s (am_nth ws i wd_0)).map fun c => ((c.1, i, c.2) : jn)) = f
  have hbest : jn_best τ s ws = ((List.range ws.length).flatMap f).foldl (jn_off (ta_ru τ 5)) [] := by rw [← hf]; rfl
  -- the end: swap
  have fin : ∀ (M2 : am_M), am_fg [10, 11, 13, 14, 15, 16, 22, 23, 24, 26, 27] [12] M M2 → rc_G M2 τ → rc_S M2 → M2.1 11 0 0 = nI (jn_best τ s ws).length → (∀ i, i < (jn_best τ s ws).length → rc_W M2 τ (fun s' => s' = s ∨ P s') (4 * M.2.1 8 2 + i) (am_nth (wd_step τ s ws) i wd_0)) → ∀ z4 z5, X d 43 59 [some (.inr (.inl (8, 0))), some (.inr (.inl (1, 0))), some (.inl (nI s)), some (.inr (.inl (11, 0))), z4, z5] [] M2 Q := by
    intro M2 fr2 hG2 hS2 hlen hw2 z4 z5
    refine am_go hX [] 40 ?_
    have v0 : M2.2.1 8 0 = M.2.1 8 0 := fr2.2.1 8 0 (by simp)
    have v2 : M2.2.1 8 2 = M.2.1 8 2 := fr2.2.1 8 2 (by simp)
    refine (fun (z : Q none (am_si (am_sv (am_sv M2 8 0 (M2.2.1 8 2)) 8 2 (M2.2.1 8 0)) 8 0 1 (M2.1 11 0 0))) => z) ?_
    have fr3 : am_fg [8] [8] M2 (am_si (am_sv (am_sv M2 8 0 (M2.2.1 8 2)) 8 2 (M2.2.1 8 0)) 8 0 1 (M2.1 11 0 0)) := by
      refine ⟨rfl, fun f k hf => ?_, fun f i k hf => ?_⟩
      · have h8 : f ≠ 8 := fun z => hf (by rw [z]; simp)
        show (am_sv (am_sv M2 8 0 (M2.2.1 8 2)) 8 2 (M2.2.1 8 0)).2.1 f k = _
        rw [am_sv_at', if_neg (fun q => h8 q.1), am_sv_at', if_neg (fun q => h8 q.1)]
      · have h8 : f ≠ 8 := fun z => hf (by rw [z]; simp)
        rw [am_si_at, if_neg (fun q => h8 q.1)]; rfl
    have w0 : (am_si (am_sv (am_sv M2 8 0 (M2.2.1 8 2)) 8 2 (M2.2.1 8 0)) 8 0 1 (M2.1 11 0 0)).2.1 8 0 = M.2.1 8 2 := by
      show (am_sv (am_sv M2 8 0 (M2.2.1 8 2)) 8 2 (M2.2.1 8 0)).2.1 8 0 = _
      rw [am_sv_at', if_neg (by omega), am_sv_at', if_pos ⟨rfl, rfl⟩, v2]
    have w2 : (am_si (am_sv (am_sv M2 8 0 (M2.2.1 8 2)) 8 2 (M2.2.1 8 0)) 8 0 1 (M2.1 11 0 0)).2.1 8 2 = M.2.1 8 0 := by
      show (am_sv (am_sv M2 8 0 (M2.2.1 8 2)) 8 2 (M2.2.1 8 0)).2.1 8 2 = _
      rw [am_sv_at', if_pos ⟨rfl, rfl⟩, v0]
    refine h _ (am_fg_tr (am_fg_mono fr2 (by simp) (by simp)) (am_fg_mono fr3 (by simp) (by simp))) ⟨?_, ?_, ?_, ?_, fun i hi => ?_⟩ ?_ ?_
    · rw [am_si_at, if_pos ⟨rfl, rfl, rfl⟩, hlen, hst.1]
    · rw [hst.1]; have := hb.1; omega
    · rw [w0, q4]; omega
    · rw [w0, w2, q4]; omega
    · rw [hst.1] at hi
      rw [w0]
      exact ⟨rc_W_fr (hw2 i hi) fr3 (by simp), (hst.2 i hi).2⟩
    · exact ⟨(fr3.2.2 10 0 1 (by simp)).trans hG2.1, (fr3.2.2 10 0 2 (by simp)).trans hG2.2.1, (fr3.2.2 10 0 3 (by simp)).trans hG2.2.2.1, by rw [fr3.1]; exact hG2.2.2.2⟩
    · exact ⟨fun k hk => (fr3.2.2 16 0 k (by simp)).trans (hS2.1 k hk), fun i hi => by rw [fr3.2.1 12 i (by simp)]; exact hS2.2.1 i hi, fun i j hi hj q => by rw [fr3.2.1 12 i (by simp), fr3.2.1 12 j (by simp)] at q; exact hS2.2.2 i j hi hj q⟩
  -- second loop: carrying out
  have carry : ∀ r i : Nat, i + r = (jn_best τ s ws).length → ∀ M2 : am_M, am_fg [10, 11, 13, 14, 15, 16, 22, 23, 24, 26, 27] [12] M M2 → rc_G M2 τ → rc_S M2 → cs_L M2 (ta_ru τ 5) (ta_dn τ s) (jn_best τ s ws) → (∀ p, p < ws.length → rc_W M2 τ P (4 * M.2.1 8 0 + p) (am_nth ws p wd_0)) → (∀ i', i' < i → rc_W M2 τ (fun s' => s' = s ∨ P s') (4 * M.2.1 8 2 + i') (am_nth (wd_step τ s ws) i' wd_0)) → ∀ z5, X d 43 30 [some (.inr (.inl (8, 0))), some (.inr (.inl (1, 0))), some (.inl (nI s)), some (.inr (.inl (11, 0))), some (.inl (nI i)), z5] [] M2 Q := by
    intro r
    induction r with
    | zero =>
      intro i hi M2 fr2 hG2 hS2 hL2 hkept hdone z5
      have hi : i = (jn_best τ s ws).length := by omega
      subst hi
      refine am_go hX [30, 59] 40 ?_
      refine ⟨fun _ => fin M2 fr2 hG2 hS2 hL2.1 hdone _ _, fun (q : ¬ M2.1 11 0 0 ≤ nI (jn_best τ s ws).length) => absurd (by rw [hL2.1]; exact nI_le (Nat.le_refl _) (by have := hb.1; omega)) q⟩
    | succ r ih =>
      intro i hi M2 fr2 hG2 hS2 hL2 hkept hdone z5
      have hbl := hb.1
      have hil : i < (jn_best τ s ws).length := by omega
      obtain ⟨c1, c2, c3, c4⟩ := hL2.2.2.2.2.2.2.2.2 i hil
      obtain ⟨x1, x2, x3, x4⟩ := hb.2.2 _ (am_nth_in (d := jn_0) hil)
      generalize hx : am_nth (jn_best τ s ws) i jn_0 = x at c1 c2 c3 c4 x1 x2 x3 x4
      have v0 : M2.2.1 8 0 = M.2.1 8 0 := fr2.2.1 8 0 (by simp)
      have v2 : M2.2.1 8 2 = M.2.1 8 2 := fr2.2.1 8 2 (by simp)
      have hv2 : M.2.1 8 2 < 2 := by rw [q4]; omega
      have hne : 4 * M.2.1 8 0 + x.2.1 ≠ 4 * M.2.1 8 2 + i := by rw [q4]; omega
      refine am_go hX [30] 60 ?_
      refine ⟨fun (q : M2.1 11 0 0 ≤ nI i) => absurd q (by rw [hL2.1]; exact nI_ge hil (by omega)), fun _ => ?_⟩
      refine ⟨i, by show i < 4; omega, rfl, i, by show i < 4; omega, rfl, x.2.1, by show x.2.1 < 4; omega, c2, am_cc (by omega) ?_⟩
      refine (fun (z : X (d - 1) 65 0 [some (.inr (.inl (24, 4 * M2.2.1 8 2 + i))), some (.inr (.inl (24, 4 * M2.2.1 8 0 + x.2.1))), none] [] M2 _) => z) ?_
      rw [v2, v0]
      refine cw_wcopy hX _ _ (by omega) τ P (fun s' hs' => ⟨by have := hP s' hs'; omega, (hτ.2.2.1 s' (hP s' hs')).2.2.1⟩) (4 * M.2.1 8 0 + x.2.1) (4 * M.2.1 8 2 + i) hne _ (hkept x.2.1 x1) m (q5 x.2.1 x1).2 _ (fun M3 ho3 hW3 => ?_)
      have fr3 : am_fg [24, 26, 27] [] M2 M3 := am_fg_of ho3.1 []
      have frA : am_fg [10, 11, 13, 14, 15, 16, 22, 23, 24, 26, 27] [12] M M3 := am_fg_tr fr2 (am_fg_mono fr3 (by simp) (by simp))
      have hL3 := cs_L_fr hL2 fr3 (by simp) (by simp) (by simp) (by simp)
      have hT3 : rc_T M3 τ := rc_T_fr hT frA (by simp) (by simp)
      have j12 : M3.2.1 12 i = M2.2.1 12 i := fr3.2.1 12 i (by simp)
      refine ⟨i, by show i < 4; omega, rfl, am_cc (by omega) ?_⟩
      refine (fun (z : X (d - 1) 71 0 [some (.inr (.inl (24, 4 * M3.2.1 8 2 + i))), some (.inr (.inl (22, M2.2.1 12 i))), some (.inr (.inl (1, 0))), some (.inl (nI s)), none, none, none, none, none] [] M3 _) => z) ?_
      rw [fr3.2.1 8 2 (by simp), v2]
      refine cw_apply hX _ _ (by omega) τ hτ hT3 s (4 * M.2.1 8 2 + i) (M2.2.1 12 i) hs (by omega) P hP _ hW3 x.1 x.2.2 ((fr3.2.2 22 _ 1 (by simp)).trans c1) (fun e he => (fr3.2.2 23 _ e (by simp)).trans (c4 e he)) x2 _ (fun M4 ho4 hW4 => ?_)
      have fr4 : am_fg [24, 26, 27] [] M3 M4 := am_fg_of ho4.1 []
      have ho : ck_only (4 * M.2.1 8 2 + i) M2 M4 := ck_only_tr ho3 ho4
      have keepW : ∀ (p : Nat) (P' : Nat → Prop) (w : wd), p ≠ 4 * M.2.1 8 2 + i → wd_n w ≤ 6 → rc_W M2 τ P' p w → rc_W M4 τ P' p w := by
        intro p P' w hp hw6 hr
        obtain ⟨g1, g2, g3, g4⟩ := hr
        exact ⟨(ho.2.1 p 0 hp).trans g1, (ho.2.1 p 1 hp).trans g2, fun k hk j hj => (ho.2.2.2 _ j (by omega)).trans (g3 k hk j hj), fun s' e hs' he => (ho.2.2.1 p _ hp).trans (g4 s' e hs' he)⟩
      refine (fun (z : X d 43 30 [some (.inr (.inl (8, 0))), some (.inr (.inl (1, 0))), some (.inl (nI s)), some (.inr (.inl (11, 0))), some (.inl (nI i + 1)), some (.inr (.inl (22, M2.2.1 12 i)))] [] M4 Q) => z) ?_
      rw [nI_1]
      refine ih (i + 1) (by omega) M4 (am_fg_tr frA (am_fg_mono fr4 (by simp) (by simp))) ?_ ?_ (cs_L_fr hL3 fr4 (by simp) (by simp) (by simp) (by simp)) (fun p hp => ?_) (fun i' hi' => ?_) _
      · have f34 : am_fg [24, 26, 27] [] M2 M4 := am_fg_tr fr3 fr4
        exact ⟨(f34.2.2 10 0 1 (by simp)).trans hG2.1, (f34.2.2 10 0 2 (by simp)).trans hG2.2.1, (f34.2.2 10 0 3 (by simp)).trans hG2.2.2.1, by rw [f34.1]; exact hG2.2.2.2⟩
      · have f34 : am_fg [24, 26, 27] [] M2 M4 := am_fg_tr fr3 fr4
        exact ⟨fun k hk => (f34.2.2 16 0 k (by simp)).trans (hS2.1 k hk), fun i hi => by rw [f34.2.1 12 i (by simp)]; exact hS2.2.1 i hi, fun i j hi hj q => by rw [f34.2.1 12 i (by simp), f34.2.1 12 j (by simp)] at q; exact hS2.2.2 i j hi hj q⟩
      · exact keepW _ _ _ (by rw [q4]; omega) (q5 p hp).2.1 (hkept p hp)
      · by_cases z : i' = i
        · subst z
          rw [(hst.2 i' hil).1, hx]; exact hW4
        · exact keepW _ _ _ (by omega) (hst.2 i' (by omega)).2.1 (hdone i' (by omega))
  -- first loop: dealing
  have deal : ∀ r i : Nat, i + r = ws.length → ∀ M2 : am_M, am_fg [10, 11, 13, 14, 15, 16, 22, 23] [12] M M2 → rc_G M2 τ → (∀ k, k < 6 → M2.1 16 0 k = 0) → cs_L M2 (ta_ru τ 5) (ta_dn τ s) (((List.range i).flatMap f).foldl (jn_off (ta_ru τ 5)) []) → X d 43 12 [some (.inr (.inl (8, 0))), some (.inr (.inl (1, 0))), some (.inl (nI s)), some (.inr (.inl (11, 0))), some (.inl (nI i)), none] [] M2 Q := by
    intro r
    induction r with
    | zero =>
      intro i hi M2 fr2 hG2 htk hL2
      have hi : i = ws.length := by omega
      subst hi
      rw [← hbest] at hL2
      have e8 : M2.1 8 0 1 = nI ws.length := (fr2.2.2 8 0 1 (by simp)).trans q1
      refine am_go hX [12, 30] 40 ?_
      refine ⟨fun _ => ?_, fun (q : ¬ M2.1 8 0 1 ≤ nI ws.length) => absurd (by rw [e8]; exact nI_le (Nat.le_refl _) (by omega)) q⟩
      exact carry (jn_best τ s ws).length 0 (by omega) M2 (am_fg_mono fr2 (by simp) (by simp)) hG2 ⟨htk, hL2.2.2.2.2.2.2.1, hL2.2.2.2.2.2.2.2.1⟩ hL2 (fun p hp => rc_W_fr (q5 p hp).1 fr2 (by simp)) (fun i' hi' => by omega) _
    | succ r ih =>
      intro i hi M2 fr2 hG2 htk hL2
      have hil : i < ws.length := by omega
      have e8 : M2.1 8 0 1 = nI ws.length := (fr2.2.2 8 0 1 (by simp)).trans q1
      have v0 : M2.2.1 8 0 = M.2.1 8 0 := fr2.2.1 8 0 (by simp)
      refine am_go hX [12] 40 ?_
      refine ⟨fun (q : M2.1 8 0 1 ≤ nI i) => absurd q (by rw [e8]; exact nI_ge hil (by omega)), fun _ => ?_⟩
      refine ⟨i, by show i < 4; omega, rfl, am_cc (by omega) ?_⟩
      refine (fun (z : X (d - 1) 49 0 [some (.inr (.inl (10, 0))), some (.inl (nI i)), some (.inr (.inl (24, 4 * M2.2.1 8 0 + i))), some (.inr (.inl (1, 0))), some (.inl (nI s))] [] M2 _) => z) ?_
      rw [v0]
      refine cw_deal hX _ _ (by omega) τ hτ (rc_T_fr hT fr2 (by simp) (by simp)) s (4 * M.2.1 8 0 + i) i hs (by omega) P _ (rc_W_fr (q5 i hil).1 fr2 (by simp)) m (by omega) (q5 i hil).2 (ta_ru τ 5) _ hL2 hG2.1 hG2.2.1 hG2.2.2.1 hG2.2.2.2 htk _ (fun M3 fr3 g1 g2 g3 ht3 hL3 => ?_)
      refine (fun (z : X d 43 12 [some (.inr (.inl (8, 0))), some (.inr (.inl (1, 0))), some (.inl (nI s)), some (.inr (.inl (11, 0))), some (.inl (nI i + 1)), none] [] M3 Q) => z) ?_
      rw [nI_1]
      refine ih (i + 1) (by omega) M3 (am_fg_tr fr2 fr3) ⟨g1, g2, g3, by rw [fr3.1]; exact hG2.2.2.2⟩ ht3 ?_
      rw [List.range_succ, List.flatMap_append, List.foldl_append]
      have e : ([i] : List Nat).flatMap f = (jn_all τ s (am_nth ws i wd_0)).map (jn_J i) := by rw [← hf, List.flatMap_cons, List.flatMap_nil, List.append_nil]; rfl
      rw [e]; exact hL3
  refine deal ws.length 0 (by omega) M1 (am_fg_mono fr1 (by simp) (by simp)) ?_ (fun k hk => (fr1.2.2 16 0 k (by simp)).trans (hS.1 k hk)) hL1
  exact ⟨(fr1.2.2 10 0 1 (by simp)).trans hG.1, (fr1.2.2 10 0 2 (by simp)).trans hG.2.1, (fr1.2.2 10 0 3 (by simp)).trans hG.2.2.1, by rw [fr1.1]; exact hG.2.2.2⟩
end
section
/-! the order of scans -/
theorem od_char (mo : Nat → Nat) (s : Nat) : ∀ (p : Nat) (o : Nat → Nat), ∃ q, q ≤ p ∧ (∀ i, od_in mo s p o i = if i < q then o i else if i = q then s else if i ≤ p then o (i - 1) else o i) ∧ (0 < q → mo (o (q - 1)) ≤ mo s) ∧ ∀ i, q ≤ i → i < p → mo s < mo (o i)
  | 0, o => ⟨0, Nat.le_refl 0, fun i => by
      rw [od_in]
      by_cases h : i = 0
      · subst h; simp
      · show (if i = 0 then s else o i) = _
        rw [if_neg h, if_neg (show ¬ i < 0 by omega), if_neg h, if_neg (show ¬ i ≤ 0 by omega)], fun h => by omega, fun i _ h => by omega⟩
  | p + 1, o => by
    by_cases h : mo s < mo (o p)
    · obtain ⟨q, h1, h2, h3, h4⟩ := od_char mo s p (fun i => if i = p + 1 then o p else o i)
      refine ⟨q, by omega, fun i => ?_, fun hq => ?_, fun i hi1 hi2 => ?_⟩
      · rw [od_in, if_pos h, h2 i]
        by_cases c1 : i < q
        · rw [if_pos c1, if_pos c1, if_neg (by omega)]
        · rw [if_neg c1, if_neg c1]
          by_cases c2 : i = q
          · rw [if_pos c2, if_pos c2]
          · rw [if_neg c2, if_neg c2]
            by_cases c3 : i ≤ p
            · rw [if_pos c3, if_neg (show ¬ i - 1 = p + 1 by omega), if_pos (show i ≤ p + 1 by omega)]
            · rw [if_neg c3]
              by_cases c4 : i = p + 1
              · subst c4; rw [if_pos rfl, if_pos (Nat.le_refl _)]; rfl
              · rw [if_neg c4, if_neg (by omega)]
      · have := h3 hq
        rw [if_neg (by omega)] at this; exact this
      · rcases Nat.lt_or_ge i p with z | z
        · have := h4 i hi1 z
          rw [if_neg (by omega)] at this; exact this
        · have : i = p := by omega
          subst this; exact h
    · refine ⟨p + 1, Nat.le_refl _, fun i => ?_, fun _ => by show mo (o p) ≤ mo s; omega, fun i h1 h2 => by omega⟩
      rw [od_in, if_neg h]
      by_cases c : i = p + 1
      · subst c; simp
      · rw [if_neg c]
        by_cases c1 : i < p + 1
        · rw [if_pos c1]
        · rw [if_neg c1, if_neg c, if_neg (by omega)]
theorem od_facts (mo : Nat → Nat) : ∀ (k : Nat), (∀ i, i < k → od_k mo k i < k) ∧ (∀ i j, i ≤ j → j < k → mo (od_k mo k i) ≤ mo (od_k mo k j)) ∧ ∀ s, s < k → ∃ i, i < k ∧ od_k mo k i = s
  | 0 => ⟨fun i h => by omega, fun i j _ h => by omega, fun s h => by omega⟩
  | k + 1 => by
    obtain ⟨f1, f2, f3⟩ := od_facts mo k
    obtain ⟨q, h1, h2, h3, h4⟩ := od_char mo k k (od_k mo k)
    have h2' : ∀ i, i < k + 1 → od_k mo (k + 1) i = if i < q then od_k mo k i else if i = q then k else od_k mo k (i - 1) := by
      intro i hi
      rw [od_k, h2 i]
      by_cases c1 : i < q
      · rw [if_pos c1, if_pos c1]
      · rw [if_neg c1, if_neg c1]
        by_cases c2 : i = q
        · rw [if_pos c2, if_pos c2]
        · rw [if_neg c2, if_neg c2, if_pos (by omega)]
    have lo : ∀ i, i < q → mo (od_k mo k i) ≤ mo k := fun i hi => Nat.le_trans (f2 i (q - 1) (by omega) (by omega)) (h3 (by omega))
    refine ⟨fun i hi => ?_, fun i j hij hj => ?_, fun s hs => ?_⟩
    · rw [h2' i hi]
      split
      · have := f1 i (by omega); omega
      · split
        · omega
        · have := f1 (i - 1) (by omega); omega
    · rw [h2' i (by omega), h2' j hj]
      by_cases c1 : j < q
      · rw [if_pos (show i < q by omega), if_pos c1]; exact f2 i j hij (by omega)
      · rw [if_neg c1]
        by_cases c2 : j = q
        · rw [if_pos c2]
          by_cases c3 : i < q
          · rw [if_pos c3]; exact lo i c3
          · rw [if_neg c3, if_pos (by omega)]; exact Nat.le_refl _
        · rw [if_neg c2]
          by_cases c3 : i < q
          · rw [if_pos c3]; exact f2 i (j - 1) (by omega) (by omega)
          · rw [if_neg c3]
            by_cases c4 : i = q
            · rw [if_pos c4]; have := h4 (j - 1) (by omega) (by omega); omega
            · rw [if_neg c4]; exact f2 (i - 1) (j - 1) (by omega) (by omega)
    · by_cases c : s = k
      · refine ⟨q, by omega, ?_⟩
        rw [h2' q (by omega), if_neg (by omega), if_pos rfl, c]
      · obtain ⟨i, hi, e⟩ := f3 s (by omega)
        by_cases c1 : i < q
        · exact ⟨i, by omega, by rw [h2' i (by omega), if_pos c1]; exact e⟩
        · refine ⟨i + 1, by omega, ?_⟩
          rw [h2' (i + 1) (by omega), if_neg (by omega), if_neg (by omega)]; exact e
theorem cw_sort {X : am_X} (hX : am_Cl X) (d : Nat) (M : am_M) (τ : ta) (hτ : ta_ok τ) (hT : rc_T M τ) (Q : am_P) (h : ∀ M', am_fr [5] M M' → (∀ i, i < ta_n τ → M'.1 5 0 i = nI (od τ i)) → Q none M') : X d 38 0 [some (.inr (.inl (1, 0))), none, none] [] M Q := by
  obtain ⟨r1, r2, r3, r4, r5, r6, r7⟩ := id hT
  have hn12 := hτ.1
  refine am_go hX [2] 40 ?_
  have outer : ∀ t s : Nat, s + t = ta_n τ → ∀ M' : am_M, am_fr [5] M M' → (∀ i, i < s → M'.1 5 0 i = nI (od_k (ta_mo τ) s i)) → ∀ z, X d 38 2 [some (.inr (.inl (1, 0))), some (.inl (nI s)), z] [] M' Q := by
    intro t
    induction t with
    | zero =>
      intro s hs M' fr ho z
      have hs : s = ta_n τ := by omega
      subst hs
      have e : M'.1 1 0 2 = nI (ta_n τ) := (fr.2 1 0 2 (by simp)).trans r1
      refine am_go hX [2] 40 ?_
      exact ⟨fun _ => h M' fr ho, fun (q : ¬ M'.1 1 0 2 ≤ nI (ta_n τ)) => absurd (by rw [e]; exact nI_le (Nat.le_refl _) (by omega)) q⟩
    | succ t ih =>
      intro s hs M' fr ho z
      have e : M'.1 1 0 2 = nI (ta_n τ) := (fr.2 1 0 2 (by simp)).trans r1
      have hsn : s < ta_n τ := by omega
      have fin : ∀ (p : Nat) (f : Nat → Nat) (M2 : am_M), p ≤ s → am_fr [5] M M2 → (∀ i, i ≤ s → i ≠ p → M2.1 5 0 i = nI (f i)) → f p = s → (∀ i, i < s + 1 → od_k (ta_mo τ) (s + 1) i = f i) → X d 38 38 [some (.inr (.inl (1, 0))), some (.inl (nI s)), some (.inl (nI p))] [] M2 Q := by
        intro p f M2 hp fr2 hf hfp hod
        refine am_go hX [2] 40 ?_
        refine ⟨p, by show p < 12; omega, rfl, ?_⟩
        refine (fun (w : X d 38 2 [some (.inr (.inl (1, 0))), some (.inl (nI s + 1)), some (.inl (nI p))] [] (am_si M2 5 0 p (nI s)) Q) => w) ?_
        rw [nI_1]
        refine ih (s + 1) (by omega) _ (am_fr_si fr2 (by simp)) (fun i hi => ?_) _
        rw [am_si_at, hod i hi]
        by_cases c : i = p
        · rw [if_pos ⟨rfl, rfl, c⟩, c, hfp]
        · rw [if_neg (fun q => c q.2.2)]; exact hf i (by omega) c
      have inner : ∀ (p : Nat) (o : Nat → Nat) (M2 : am_M), p ≤ s → am_fr [5] M M2 → (∀ i, i ≤ s → i ≠ p → M2.1 5 0 i = nI (o i)) → (∀ i, i < p → o i < s) → (∀ i, i < s + 1 → od_k (ta_mo τ) (s + 1) i = od_in (ta_mo τ) s p o i) → X d 38 8 [some (.inr (.inl (1, 0))), some (.inl (nI s)), some (.inl (nI p))] [] M2 Q := by
        intro p
        induction p with
        | zero =>
          intro o M2 hp fr2 hf hlt hod
          refine am_go hX [38] 40 ?_
          refine ⟨fun _ => ?_, fun (q : ¬ nI 0 ≤ 0) => absurd (by decide) q⟩
          exact fin 0 (fun i => if i = 0 then s else o i) M2 hp fr2 (fun i hi hne => by rw [if_neg hne]; exact hf i hi hne) (if_pos rfl) (fun i hi => by rw [hod i hi, od_in])
        | succ p ihp =>
          intro o M2 hp fr2 hf hlt hod
          have hop : o p < s := hlt p (by omega)
          have ep : M2.1 5 0 p = nI (o p) := hf p (by omega) (by omega)
          have hV : M2.2 = M.2 := fr2.1
          have m1 : M2.1 18 (M2.2.1 4 (o p)) 1 = nI (ta_mo τ (o p)) := by rw [hV]; exact (fr2.2 18 _ 1 (by simp)).trans (r5 (o p) (by omega)).2.1
          have m2 : M2.1 18 (M2.2.1 4 s) 1 = nI (ta_mo τ s) := by rw [hV]; exact (fr2.2 18 _ 1 (by simp)).trans (r5 s hsn).2.1
          have b1 := (hτ.2.2.1 (o p) (by omega)).2.1
          have b2 := (hτ.2.2.1 s hsn).2.1
          refine am_go hX [8, 38] 40 ?_
          refine ⟨fun (q : nI (p + 1) ≤ 0) => absurd q (nI_nle (by omega) (by omega)), fun _ => ?_⟩
          refine ⟨p, by show p < 12; omega, nI_pred p, o p, by show o p < 13; omega, ep, s, by show s < 13; omega, rfl, fun (q : M2.1 18 (M2.2.1 4 (o p)) 1 ≤ M2.1 18 (M2.2.1 4 s) 1) => ?_, fun (q : ¬ M2.1 18 (M2.2.1 4 (o p)) 1 ≤ M2.1 18 (M2.2.1 4 s) 1) => ?_⟩
          · rw [m1, m2] at q
            have q := (nI_leI (by omega) (by omega)).mp q
            exact fin (p + 1) (fun i => if i = p + 1 then s else o i) M2 hp fr2 (fun i hi hne => by rw [if_neg hne]; exact hf i hi hne) (if_pos rfl) (fun i hi => by rw [hod i hi, od_in, if_neg (by omega)])
          · rw [m1, m2] at q
            have q : ta_mo τ s < ta_mo τ (o p) := by
              rcases Nat.lt_or_ge (ta_mo τ s) (ta_mo τ (o p)) with w | w
              · exact w
              · exact absurd (nI_le w (by omega)) q
            refine ⟨p, by show p < 12; omega, nI_pred p, p + 1, by show p + 1 < 12; omega, rfl, ?_⟩
            refine (fun (w : X d 38 8 [some (.inr (.inl (1, 0))), some (.inl (nI s)), some (.inl (nI (p + 1) + (-1)))] [] (am_si M2 5 0 (p + 1) (M2.1 5 0 p)) Q) => w) ?_
            rw [pk_m1, ep]
            refine ihp (fun i => if i = p + 1 then o p else o i) _ (by omega) (am_fr_si fr2 (by simp)) (fun i hi hne => ?_) (fun i hi => by rw [if_neg (by omega)]; exact hlt i (by omega)) (fun i hi => by rw [hod i hi, od_in, if_pos q])
            rw [am_si_at]
            by_cases c : i = p + 1
            · rw [if_pos ⟨rfl, rfl, c⟩, if_pos c]
            · rw [if_neg (fun w => c w.2.2), if_neg c]; exact hf i hi c
      refine am_go hX [8] 40 ?_
      refine ⟨fun (q : M'.1 1 0 2 ≤ nI s) => absurd q (by rw [e]; exact nI_ge hsn (by omega)), fun _ => ?_⟩
      exact inner s (od_k (ta_mo τ) s) M' (Nat.le_refl s) fr (fun i hi hne => ho i (by omega)) (fun i hi => (od_facts (ta_mo τ) s).1 i hi) (fun i hi => rfl)
  exact outer (ta_n τ) 0 (by omega) M (am_fr_rf _ M) (fun i hi => by omega) _
/-- the class's reckoned part -/
def rc_D (M : am_M) (τ : ta) : Prop := (∀ i, i < ta_n τ → M.1 5 0 i = nI (od τ i)) ∧ rc_K M τ (fun s => s < ta_n τ) (ta_n τ) (wds τ)
theorem rc_K_P {M : am_M} {τ : ta} {P P' : Nat → Prop} {m : Nat} {ws : List wd} (h : rc_K M τ P m ws) (hP : ∀ s, P' s → P s) : rc_K M τ P' m ws := by
  obtain ⟨q1, q2, q3, q4, q5⟩ := h
  exact ⟨q1, q2, q3, q4, fun i hi => ⟨⟨(q5 i hi).1.1, (q5 i hi).1.2.1, (q5 i hi).1.2.2.1, fun s e hs he => (q5 i hi).1.2.2.2 s e (hP s hs) he⟩, (q5 i hi).2⟩⟩
theorem cw_clear {X : am_X} (hX : am_Cl X) (d : Nat) (M : am_M) (p : Nat) (Q : am_P) (h : Q none (am_si (am_si M 24 p 0 0) 24 p 1 0)) : X d 64 0 [some (.inr (.inl (24, p)))] [] M Q := by
  refine am_go hX [] 40 ?_
  exact h
/-- behind a refresh -/
def rc_F (M M' : am_M) : Prop := (∀ f k, f ∉ [8, 12] → M'.2.1 f k = M.2.1 f k) ∧ (∀ f i k, f ∉ [1, 5, 8, 10, 11, 13, 14, 15, 16, 22, 23, 24, 26, 27] → M'.1 f i k = M.1 f i k) ∧ ∀ k, k ≠ 0 → M'.1 1 0 k = M.1 1 0 k
theorem rc_T_F {M M' : am_M} {τ : ta} (h : rc_T M τ) (fr : rc_F M M') : rc_T M' τ := by
  obtain ⟨h1, h2, h3, h4, h5, h6, h7⟩ := h
  have fv : ∀ i, M'.2.1 4 i = M.2.1 4 i := fun i => fr.1 4 i (by simp)
  have f := fr.2.1
  refine ⟨(fr.2.2 2 (by omega)).trans h1, fun w hw => ⟨(f 2 _ _ (by simp)).trans (h2 w hw).1, (f 3 _ _ (by simp)).trans (h2 w hw).2⟩, fun i hi => by rw [fv]; exact h3 i hi, fun i j hi hj q => by rw [fv, fv] at q; exact h4 i j hi hj q, fun s hs => ?_, fun k hk => (f 7 _ _ (by simp)).trans (h6 k hk), fun k hk => (f 6 _ _ (by simp)).trans (h7 k hk)⟩
  obtain ⟨a1, a2, a3, a4⟩ := h5 s hs
  rw [fv]
  exact ⟨(f 18 _ _ (by simp)).trans a1, (f 18 _ _ (by simp)).trans a2, (f 18 _ _ (by simp)).trans a3, fun e he => ⟨(f 19 _ _ (by simp)).trans (a4 e he).1, (f 20 _ _ (by simp)).trans (a4 e he).2.1, (f 21 _ _ (by simp)).trans (a4 e he).2.2⟩⟩
set_option maxHeartbeats 1000000 in
theorem cw_refresh {X : am_X} (hX : am_Cl X) (d : Nat) (M : am_M) (hd : 9 ≤ d) (τ : ta) (hτ : ta_ok τ) (hT : rc_T M τ) (hS : rc_S M) (hv : M.2.1 8 0 < 2 ∧ M.2.1 8 2 = 1 - M.2.1 8 0) (hD : M.1 1 0 0 = 0 → rc_D M τ) (Q : am_P)
    (h : ∀ M', rc_F M M' → rc_D M' τ → rc_S M' → M'.1 1 0 0 = 0 → Q none M') : X d 42 0 [some (.inr (.inl (8, 0))), some (.inr (.inl (1, 0))), none] [] M Q := by
  refine am_go hX [24] 60 ?_
  refine ⟨fun _ => ?_, fun (q : ¬ ¬ M.1 1 0 0 = 0) => h M ⟨fun _ _ _ => rfl, fun _ _ _ _ => rfl, fun _ _ => rfl⟩ (hD (Classical.not_not.mp q)) hS (Classical.not_not.mp q)⟩
  have hn12 := hτ.1
  have F1 : rc_F M (am_si M 1 0 0 0) := ⟨fun _ _ _ => rfl, fun f i k hf => by rw [am_si_at, if_neg (fun z => hf (by rw [z.1]; simp))], fun k hk => by rw [am_si_at, if_neg (fun z => hk z.2.2)]⟩
  refine ⟨Or.inl rfl, am_cc (by omega) (cw_sort hX _ _ τ hτ (rc_T_F hT F1) _ (fun M2 fr2 ho2 => ?_))⟩
  have F2 : rc_F M M2 := ⟨fun f k hf => by rw [fr2.1]; exact F1.1 f k hf, fun f i k hf => (fr2.2 f i k (fun z => hf (by simp at z ⊢; omega))).trans (F1.2.1 f i k hf), fun k hk => (fr2.2 1 0 k (by simp)).trans (F1.2.2 k hk)⟩
  have hT2 := rc_T_F hT F2
  refine am_cc (by omega) (cw_goBy hX _ _ τ hτ hT2.2.2.2.2.2.2 _ (fun M3 fr3 g1 g2 g3 g4 => ?_))
  have c10 : M3.1 1 0 0 = 0 := by
    rw [fr3.2.2 1 0 0 (by simp)]
    show M2.1 1 0 0 = 0
    rw [fr2.2 1 0 0 (by simp), am_si_at, if_pos ⟨rfl, rfl, rfl⟩]
  have v3 : ∀ f k, M3.2.1 f k = M.2.1 f k := fun f k => (fr3.2.1 f k (by simp)).trans (by show M2.2.1 f k = _; rw [fr2.1]; rfl)
  have i3 : ∀ f i k, f ≠ 10 → M3.1 f i k = M2.1 f i k := fun f i k hf => fr3.2.2 f i k (by simpa using hf)
  refine ⟨0, by show 0 < 4; omega, rfl, am_cc (by omega) (cw_clear hX _ _ _ _ ?_)⟩
  refine (fun (z : X d 42 24 [some (.inr (.inl (8, 0))), some (.inr (.inl (1, 0))), some (.inl (nI 0))] [] (am_si (am_si (am_si M3 24 (4 * M3.2.1 8 0 + 0) 0 0) 24 (4 * M3.2.1 8 0 + 0) 1 0) 8 0 1 1) Q) => z) ?_
  generalize hM4 : am_si (am_si (am_si M3 24 (4 * M3.2.1 8 0 + 0) 0 0) 24 (4 * M3.2.1 8 0 + 0) 1 0) 8 0 1 1 = M4
  have fr4 : am_fg [8, 24] [] M3 M4 := by rw [← hM4]; exact am_fg_si (am_fg_si (am_fg_si (am_fg_rf _ _ _) (by simp)) (by simp)) (by simp)
  have v4 : ∀ f k, M4.2.1 f k = M.2.1 f k := fun f k => (fr4.2.1 f k (by simp)).trans (v3 f k)
  have key : ∀ M' : am_M, am_fg [8, 10, 11, 13, 14, 15, 16, 22, 23, 24, 26, 27] [8, 12] M4 M' → rc_F M M' ∧ M'.1 1 0 0 = 0 ∧ (∀ i, i < ta_n τ → M'.1 5 0 i = nI (od τ i)) := by
    intro M' fr
    refine ⟨⟨fun f k hf => (fr.2.1 f k hf).trans (v4 f k), fun f i k hf => ?_, fun k hk => ?_⟩, ?_, fun i hi => ?_⟩
    · rw [fr.2.2 f i k (fun z => hf (by simp at z ⊢; omega)), fr4.2.2 f i k (fun z => hf (by simp at z ⊢; omega)), i3 f i k (fun z => hf (by simp [z])), F2.2.1 f i k hf]
    · rw [fr.2.2 1 0 k (by simp), fr4.2.2 1 0 k (by simp), i3 1 0 k (by omega)]; exact F2.2.2 k hk
    · rw [fr.2.2 1 0 0 (by simp), fr4.2.2 1 0 0 (by simp)]; exact c10
    · rw [fr.2.2 5 0 i (by simp), fr4.2.2 5 0 i (by simp), i3 5 0 i (by omega)]; exact ho2 i hi
  have loop : ∀ t i : Nat, i + t = ta_n τ → ∀ M' : am_M, am_fg [8, 10, 11, 13, 14, 15, 16, 22, 23, 24, 26, 27] [8, 12] M4 M' → rc_K M' τ (fun s => ∃ i', i' < i ∧ od τ i' = s) i (wd_k τ i) → rc_G M' τ → rc_S M' → X d 42 24 [some (.inr (.inl (8, 0))), some (.inr (.inl (1, 0))), some (.inl (nI i))] [] M' Q := by
    intro t
    induction t with
    | zero =>
      intro i hi M' fr hK hG hS'
      have hi : i = ta_n τ := by omega
      subst hi
      obtain ⟨k1, k2, k3⟩ := key M' fr
      have e := (rc_T_F hT k1).1
      refine am_go hX [24] 40 ?_
      refine ⟨fun _ => h M' k1 ⟨k3, rc_K_P hK (fun s hs => ?_)⟩ hS' k2, fun (q : ¬ M'.1 1 0 2 ≤ nI (ta_n τ)) => absurd (by rw [e]; exact nI_le (Nat.le_refl _) (by omega)) q⟩
      exact (od_facts (ta_mo τ) (ta_n τ)).2.2 s hs
    | succ t ih =>
      intro i hi M' fr hK hG hS'
      obtain ⟨k1, k2, k3⟩ := key M' fr
      have hT' := rc_T_F hT k1
      have e := hT'.1
      have hin : i < ta_n τ := by omega
      have hod := (od_facts (ta_mo τ) (ta_n τ)).1
      refine am_go hX [24] 40 ?_
      refine ⟨fun (q : M'.1 1 0 2 ≤ nI i) => absurd q (by rw [e]; exact nI_ge hin (by omega)), fun _ => ?_⟩
      refine ⟨i, by show i < 12; omega, rfl, am_cc (by omega) ?_⟩
      refine (fun (z : X (d - 1) 43 0 [some (.inr (.inl (8, 0))), some (.inr (.inl (1, 0))), some (.inl (M'.1 5 0 i)), none, none, none] [] M' _) => z) ?_
      rw [k3 i hin]
      refine cw_takeIn hX _ _ (by omega) τ hτ hT' (od τ i) (hod i hin) _ (fun s hs => by obtain ⟨i', h1, rfl⟩ := hs; exact hod i' (by omega)) i (by omega) (wd_k τ i) hK hG hS' _ (fun M5 fr5 hK5 hG5 hS5 => ?_)
      refine (fun (z : X d 42 24 [some (.inr (.inl (8, 0))), some (.inr (.inl (1, 0))), some (.inl (nI i + 1))] [] M5 Q) => z) ?_
      rw [nI_1]
      refine ih (i + 1) (by omega) M5 (am_fg_tr fr fr5) (rc_K_P hK5 (fun s hs => ?_)) hG5 hS5
      obtain ⟨i', h1, h2⟩ := hs
      by_cases z : i' = i
      · exact Or.inl (by rw [← h2, z])
      · exact Or.inr ⟨i', by omega, h2⟩
  refine loop (ta_n τ) 0 (by omega) M4 (am_fg_rf _ _ _) ⟨?_, (by decide : 1 ≤ 4), ?_, ?_, fun i hi => ?_⟩ ?_ ?_
  · rw [← hM4, am_si_at, if_pos ⟨rfl, rfl, rfl⟩]; rfl
  · rw [v4]; exact hv.1
  · rw [v4, v4]; exact hv.2
  · have hi : i < 1 := hi
    have hi0 : i = 0 := by omega
    subst hi0
    have e0 : M4.2.1 8 0 = M3.2.1 8 0 := (v4 8 0).trans (v3 8 0).symm
    refine ⟨⟨?_, ?_, fun k hk => ?_, fun s e hs => ?_⟩, by show 0 ≤ 6; omega, by show 0 ≤ _; omega, fun k hk => ?_⟩
    · rw [e0, ← hM4, am_si_at, if_neg (by omega), am_si_at, if_neg (by omega), am_si_at, if_pos ⟨rfl, rfl, rfl⟩]; rfl
    · rw [e0, ← hM4, am_si_at, if_neg (by omega), am_si_at, if_pos ⟨rfl, rfl, rfl⟩]; rfl
    · exact absurd hk (Nat.not_lt_zero k)
    · obtain ⟨i', h1, -⟩ := hs; omega
    · exact absurd hk (Nat.not_lt_zero k)
  · exact ⟨(fr4.2.2 10 0 1 (by simp)).trans g1, (fr4.2.2 10 0 2 (by simp)).trans g2, (fr4.2.2 10 0 3 (by simp)).trans g3, by rw [fr4.1]; exact g4⟩
  · refine ⟨fun k hk => ?_, fun i hi => by rw [v4]; exact hS.2.1 i hi, fun i j hi hj q => by rw [v4, v4] at q; exact hS.2.2 i j hi hj q⟩
    rw [fr4.2.2 16 0 k (by simp), i3 16 0 k (by omega), fr2.2 16 0 k (by simp), am_si_at, if_neg (by omega)]; exact hS.1 k hk
end
section
/-! THE REFERENCE: what was told, a world, as its cells hold them; tolls -/
def rm_T (M : am_M) (τ : ta) : Prop :=
  M.1 28 0 1 = nI (ta_n τ) ∧ (∀ w, w < 3 → M.1 29 0 w = ta_sa τ w ∧ M.1 30 0 w = ta_sb τ w) ∧
  (∀ s, s < ta_n τ → M.1 31 0 s = nI (ta_wt τ s) ∧ M.1 32 0 s = nI (ta_mo τ s) ∧ M.1 33 0 s = nI (ta_dn τ s) ∧ ∀ e, e < ta_dn τ s → M.1 34 0 (4 * s + e) = ta_dx τ s e ∧ M.1 35 0 (4 * s + e) = ta_dy τ s e ∧ M.1 36 0 (4 * s + e) = nI (ta_dm τ s e)) ∧
  (∀ k, k < 10 → M.1 40 0 k = nI (ta_kd τ k)) ∧ ∀ k, k < 6 → M.1 41 0 k = nI (ta_ru τ k)
def rm_W (M : am_M) (τ : ta) (P : Nat → Prop) (p : Nat) (w : wd) : Prop :=
  M.1 43 0 p = nI (wd_c w) ∧ M.1 44 0 p = nI (wd_n w) ∧ (∀ k, k < wd_n w → ∀ j, j < 9 → M.1 (46 + j) 0 (6 * p + k) = wd_t w k j) ∧ ∀ s e, P s → e < ta_dn τ s → M.1 45 0 (48 * p + (4 * s + e)) = wd_a w s e
theorem rm_T_fr {M M' : am_M} {L LV : List Nat} {τ : ta} (h : rm_T M τ) (fr : am_fg L LV M M') (hL : ∀ f ∈ [28, 29, 30, 31, 32, 33, 34, 35, 36, 40, 41], f ∉ L) : rm_T M' τ := by
  obtain ⟨h1, h2, h3, h4, h5⟩ := h
  have f : ∀ g, g ∈ [28, 29, 30, 31, 32, 33, 34, 35, 36, 40, 41] → ∀ i k, M'.1 g i k = M.1 g i k := fun g hg i k => fr.2.2 g i k (hL g hg)
  refine ⟨(f 28 (by simp) _ _).trans h1, fun w hw => ⟨(f 29 (by simp) _ _).trans (h2 w hw).1, (f 30 (by simp) _ _).trans (h2 w hw).2⟩, fun s hs => ?_, fun k hk => (f 40 (by simp) _ _).trans (h4 k hk), fun k hk => (f 41 (by simp) _ _).trans (h5 k hk)⟩
  obtain ⟨a1, a2, a3, a4⟩ := h3 s hs
  exact ⟨(f 31 (by simp) _ _).trans a1, (f 32 (by simp) _ _).trans a2, (f 33 (by simp) _ _).trans a3, fun e he => ⟨(f 34 (by simp) _ _).trans (a4 e he).1, (f 35 (by simp) _ _).trans (a4 e he).2.1, (f 36 (by simp) _ _).trans (a4 e he).2.2⟩⟩
/-- the same, where of the object itself other fields changed -/
theorem rm_T_fr' {M M' : am_M} {L LV : List Nat} {τ : ta} (h : rm_T M τ) (fr : am_fg (28 :: L) LV M M') (h28 : M'.1 28 0 1 = M.1 28 0 1) (hL : ∀ f ∈ [29, 30, 31, 32, 33, 34, 35, 36, 40, 41], f ∉ 28 :: L) : rm_T M' τ := by
  obtain ⟨h1, h2, h3, h4, h5⟩ := h
  have f : ∀ g, g ∈ [29, 30, 31, 32, 33, 34, 35, 36, 40, 41] → ∀ i k, M'.1 g i k = M.1 g i k := fun g hg i k => fr.2.2 g i k (hL g hg)
  refine ⟨h28.trans h1, fun w hw => ⟨(f 29 (by simp) _ _).trans (h2 w hw).1, (f 30 (by simp) _ _).trans (h2 w hw).2⟩, fun s hs => ?_, fun k hk => (f 40 (by simp) _ _).trans (h4 k hk), fun k hk => (f 41 (by simp) _ _).trans (h5 k hk)⟩
  obtain ⟨a1, a2, a3, a4⟩ := h3 s hs
  exact ⟨(f 31 (by simp) _ _).trans a1, (f 32 (by simp) _ _).trans a2, (f 33 (by simp) _ _).trans a3, fun e he => ⟨(f 34 (by simp) _ _).trans (a4 e he).1, (f 35 (by simp) _ _).trans (a4 e he).2.1, (f 36 (by simp) _ _).trans (a4 e he).2.2⟩⟩
theorem cm_rightX {X : am_X} (hX : am_Cl X) (d : Nat) (M : am_M) (τ : ta) (hτ : ta_ok τ) (hT : rm_T M τ) (s e : Nat) (hs : s < ta_n τ) (he : e < ta_dn τ s) (Q : am_P) (h : Q (some (.inl (ta_rx τ s e))) M) : X d 94 0 [some (.inr (.inl (28, 0))), some (.inl (nI s)), some (.inl (nI e))] [] M Q := by
  obtain ⟨h1, h2, h3, -, -⟩ := hT
  obtain ⟨a1, a2, a3, a4⟩ := h3 s hs
  obtain ⟨b1, b2, b3, -⟩ := hτ.2.2.1 s hs
  have hn := hτ.1
  have ix : 4 * nI s + nI e = nI (4 * s + e) := by rw [show (4 : Int32) = nI 4 from rfl, pk_mul, nI_add]
  refine am_go hX [] 30 ?_
  refine ⟨4 * s + e, by show 4 * s + e < 48; omega, ix, s, by show s < 12; omega, rfl, ta_wt τ s, b1, a1, ?_⟩
  refine (fun (z : Q (some (.inl (M.1 34 0 (4 * s + e) + M.1 29 0 (ta_wt τ s)))) M) => z) ?_
  rw [(a4 e he).1, (h2 _ b1).1]; exact h
theorem cm_rightY {X : am_X} (hX : am_Cl X) (d : Nat) (M : am_M) (τ : ta) (hτ : ta_ok τ) (hT : rm_T M τ) (s e : Nat) (hs : s < ta_n τ) (he : e < ta_dn τ s) (Q : am_P) (h : Q (some (.inl (ta_ry τ s e))) M) : X d 95 0 [some (.inr (.inl (28, 0))), some (.inl (nI s)), some (.inl (nI e))] [] M Q := by
  obtain ⟨h1, h2, h3, -, -⟩ := hT
  obtain ⟨a1, a2, a3, a4⟩ := h3 s hs
  obtain ⟨b1, b2, b3, -⟩ := hτ.2.2.1 s hs
  have hn := hτ.1
  have ix : 4 * nI s + nI e = nI (4 * s + e) := by rw [show (4 : Int32) = nI 4 from rfl, pk_mul, nI_add]
  refine am_go hX [] 30 ?_
  refine ⟨4 * s + e, by show 4 * s + e < 48; omega, ix, s, by show s < 12; omega, rfl, ta_wt τ s, b1, a1, ?_⟩
  refine (fun (z : Q (some (.inl (M.1 35 0 (4 * s + e) + M.1 30 0 (ta_wt τ s)))) M) => z) ?_
  rw [(a4 e he).2.1, (h2 _ b1).2]; exact h
/-- the reference's foretold place, in longs -/
theorem cm_foretold {X : am_X} (hX : am_Cl X) (d : Nat) (M : am_M) (τ : ta) (hk : ∀ k, k < 10 → ta_kd τ k ≤ 2) (h40 : ∀ k, k < 10 → M.1 40 0 k = nI (ta_kd τ k)) (t : Nat) (ht : t < 48) (r : Nat → Int32) (hr : ∀ j, j < 9 → M.1 (46 + j) 0 t = r j) (hok : tk_ok r) (m : Int32) (m0 : 0 ≤ m.toInt) (m1 : m.toInt ≤ 999) (c : Nat) (hc : c = 0 ∨ c = 1) (Q : am_P)
    (h : ∀ v : Int64, v.toInt = tk_f τ r m.toInt c → Q (some (.inr (.inr (v)))) M) : X d 96 0 [some (.inr (.inl (28, 0))), some (.inl (nI t)), some (.inl (m)), some (.inl (nI c)), none, none, none, none, none, none, none] [] M Q := by
  have hb := tk_f_bd (τ := τ) hok m0 m1 hc
  obtain ⟨t0, t1, t2, t3, t4, t7, -⟩ := id hok
  have e7 : r 7 = nI (r 7).toNatClampNeg := by
    apply iz_nI
    · have e : (r 7).toNatClampNeg = (r 7).toInt.toNat := rfl
      omega
    · have e : (r 7).toNatClampNeg = (r 7).toInt.toNat := rfl
      omega
  have h7 : (r 7).toNatClampNeg < 10 := by
    have e : (r 7).toNatClampNeg = (r 7).toInt.toNat := rfl
    omega
  have hkd := hk _ h7
  have dl : (m - r 4).toInt64.toInt = m.toInt - (r 4).toInt := by rw [lz_of, iz_sub (by omega) (by omega)]
  have hx : -1050 ≤ (r c).toInt ∧ (r c).toInt ≤ 1050 := by rcases hc with rfl | rfl; exact t0; exact t1
  have hu : -2100 ≤ (r (c + 2)).toInt ∧ (r (c + 2)).toInt ≤ 2100 := by rcases hc with rfl | rfl; exact t2; exact t3
  have hp := iz_bd (a := m.toInt - (r 4).toInt) (b := (r (c + 2)).toInt) (x := 999) (y := 2100) (by omega) (by omega) hu.1 hu.2
  have pm : ((m - r 4).toInt64 * (r (c + 2)).toInt64).toInt = (m.toInt - (r 4).toInt) * (r (c + 2)).toInt := by
    rw [lz_mul (by rw [dl, lz_of]; omega) (by rw [dl, lz_of]; omega), dl, lz_of]
  -- the end, from the kind on
  have fin : ∀ (z5 z7 z9 : Option am_V), X d 96 44 [some (.inr (.inl (28, 0))), some (.inl (nI t)), some (.inl (m)), some (.inl (nI c)), some (.inr (.inr ((m - r 4).toInt64))), z5, some (.inr (.inr ((r c).toInt64))), z7, some (.inr (.inr ((r (c + 2)).toInt64))), z9, some (.inl (nI (ta_kd τ (r 7).toNatClampNeg)))] [] M Q := by
    intro z5 z7 z9
    refine am_go hX [] 40 ?_
    have kk : ∀ j, j < 2 ^ 31 → (nI (ta_kd τ (r 7).toNatClampNeg) = nI j ↔ ta_kd τ (r 7).toNatClampNeg = j) := fun j hj => nI_eq (by omega) hj
    refine ⟨fun (q : ¬ nI (ta_kd τ (r 7).toNatClampNeg) = 0) => ⟨fun (q2 : ¬ nI (ta_kd τ (r 7).toNatClampNeg) = 1) => ?_, fun (q2 : ¬ ¬ nI (ta_kd τ (r 7).toNatClampNeg) = 1) => ?_⟩, fun (q : ¬ ¬ nI (ta_kd τ (r 7).toNatClampNeg) = 0) => ?_⟩
    · have k0 : ta_kd τ (r 7).toNatClampNeg ≠ 0 := fun z => q ((kk 0 (by decide)).mpr z)
      have k1 : ta_kd τ (r 7).toNatClampNeg ≠ 1 := fun z => q2 ((kk 1 (by decide)).mpr z)
      have k2 : ta_kd τ (r 7).toNatClampNeg = 2 := by omega
      refine h _ ?_
      rw [lz_sub (by rw [pm, lz_of]; omega) (by rw [pm, lz_of]; omega), pm, lz_of]
      unfold tk_f tk_ah
      rw [if_neg k1, if_pos k2, Int.neg_mul]; omega
    · have k1 : ta_kd τ (r 7).toNatClampNeg = 1 := (kk 1 (by decide)).mp (Classical.not_not.mp q2)
      refine h _ ?_
      rw [lz_of]
      unfold tk_f tk_ah
      rw [if_pos k1, Int.zero_mul]; omega
    · have k0 : ta_kd τ (r 7).toNatClampNeg = 0 := (kk 0 (by decide)).mp (Classical.not_not.mp q)
      refine h _ ?_
      rw [lz_add (by rw [pm, lz_of]; omega) (by rw [pm, lz_of]; omega), pm, lz_of]
      unfold tk_f tk_ah
      rw [if_neg (by omega), if_neg (by omega)]
  have r4 : M.1 50 0 t = r 4 := hr 4 (by omega)
  have r7 : M.1 53 0 t = r 7 := hr 7 (by omega)
  refine am_go hX [44] 60 ?_
  refine ⟨t, ht, rfl, ?_⟩
  rcases hc with rfl | rfl
  · have r0 : M.1 46 0 t = r 0 := hr 0 (by omega)
    have r2 : M.1 48 0 t = r 2 := hr 2 (by omega)
    refine ⟨fun _ => ?_, fun (q : ¬ nI 0 = 0) => absurd rfl q⟩
    refine ⟨t, ht, rfl, fun _ => ?_, fun (q : ¬ nI 0 = 0) => absurd rfl q⟩
    refine ⟨t, ht, rfl, t, ht, rfl, (r 7).toNatClampNeg, h7, r7.trans e7, ?_⟩
    refine (fun (z : X d 96 44 [some (.inr (.inl (28, 0))), some (.inl (nI t)), some (.inl (m)), some (.inl (nI 0)), some (.inr (.inr ((m - M.1 50 0 t).toInt64))), none, some (.inr (.inr ((M.1 46 0 t).toInt64))), none, some (.inr (.inr ((M.1 48 0 t).toInt64))), none, some (.inl (M.1 40 0 (r 7).toNatClampNeg))] [] M Q) => z) ?_
    rw [r4, r0, r2, h40 _ h7]
    exact fin _ _ _
  · have r0 : M.1 47 0 t = r 1 := hr 1 (by omega)
    have r2 : M.1 49 0 t = r 3 := hr 3 (by omega)
    refine ⟨fun (q : nI 1 = 0) => absurd q (by decide), fun _ => ?_⟩
    refine ⟨t, ht, rfl, fun (q : nI 1 = 0) => absurd q (by decide), fun _ => ?_⟩
    refine ⟨t, ht, rfl, t, ht, rfl, (r 7).toNatClampNeg, h7, r7.trans e7, ?_⟩
    refine (fun (z : X d 96 44 [some (.inr (.inl (28, 0))), some (.inl (nI t)), some (.inl (m)), some (.inl (nI 1)), some (.inr (.inr ((m - M.1 50 0 t).toInt64))), none, some (.inr (.inr ((M.1 47 0 t).toInt64))), none, some (.inr (.inr ((M.1 49 0 t).toInt64))), none, some (.inl (M.1 40 0 (r 7).toNatClampNeg))] [] M Q) => z) ?_
    rw [r4, r0, r2, h40 _ h7]
    exact fin _ _ _
end
section
/-- what the reference's table of joins holds: of a dot and a pick -/
def mj_v (τ : ta) (s : Nat) (w : wd) (e k : Nat) : Int32 := if k < 6 then (if k < wd_n w then ck_tl (tk_toll τ (wd_t w k) s e) else -1) else if k = 6 then nI (ta_ru τ 2) else nI (ta_ru τ 3)
set_option maxHeartbeats 1000000 in
theorem cm_findJoins {X : am_X} (hX : am_Cl X) (d : Nat) (M : am_M) (hd : 1 ≤ d) (τ : ta) (hτ : ta_ok τ) (hT : rm_T M τ) (s p : Nat) (hs : s < ta_n τ) (hp : p < 8) (P : Nat → Prop) (w : wd) (hW : rm_W M τ P p w) (m0 : Nat) (hw : wd_ok m0 w) (Q : am_P)
    (h : ∀ M', am_fr [55] M M' → (∀ e k, e < ta_dn τ s → k < 8 → M'.1 55 0 (8 * e + k) = mj_v τ s w e k) → Q none M') : X d 97 0 [some (.inr (.inl (28, 0))), some (.inl (nI p)), some (.inl (nI s)), none, none, none, none, none, none, none, none, none, none] [] M Q := by
  obtain ⟨h1, h2, h3, h4, h5⟩ := id hT
  obtain ⟨a1, a2, a3, a4⟩ := h3 s hs
  obtain ⟨b1, b2, b3, b4⟩ := hτ.2.2.1 s hs
  obtain ⟨w1, w2, w3, -⟩ := hW
  obtain ⟨o1, o2, o3⟩ := hw
  have hn := hτ.1
  have hgate : ta_ru τ 0 ≤ 500 := hτ.2.2.2.2.1
  have hkd := hτ.2.2.2.1
  refine am_go hX [2] 40 ?_
  have outer : ∀ t e : Nat, e + t = ta_dn τ s → ∀ M' : am_M, am_fr [55] M M' → (∀ e' k, e' < e → k < 8 → M'.1 55 0 (8 * e' + k) = mj_v τ s w e' k) → ∀ z4 z5 z6 z7 z8 z9 z10 z11 z12, X d 97 2 [some (.inr (.inl (28, 0))), some (.inl (nI p)), some (.inl (nI s)), some (.inl (nI e)), z4, z5, z6, z7, z8, z9, z10, z11, z12] [] M' Q := by
    intro t
    induction t with
    | zero =>
      intro e he M' fr hdone z4 z5 z6 z7 z8 z9 z10 z11 z12
      have he : e = ta_dn τ s := by omega
      subst he
      have e3 : M'.1 33 0 s = nI (ta_dn τ s) := (fr.2 33 0 s (by simp)).trans a3
      refine am_go hX [2] 40 ?_
      exact ⟨s, by show s < 12; omega, rfl, fun _ => h M' fr hdone, fun (q : ¬ M'.1 33 0 s ≤ nI (ta_dn τ s)) => absurd (by rw [e3]; exact nI_le (Nat.le_refl _) (by omega)) q⟩
    | succ t ih =>
      intro e he M' fr hdone z4 z5 z6 z7 z8 z9 z10 z11 z12
      have hen : e < ta_dn τ s := by omega
      have e3 : M'.1 33 0 s = nI (ta_dn τ s) := (fr.2 33 0 s (by simp)).trans a3
      have ix8 : ∀ k, 8 * nI e + nI k = nI (8 * e + k) := fun k => by rw [show (8 : Int32) = nI 8 from rfl, pk_mul, nI_add]
      have inner : ∀ t2 k : Nat, k + t2 = 6 → ∀ M2 : am_M, am_fr [55] M M2 → (∀ e' k', e' < e → k' < 8 → M2.1 55 0 (8 * e' + k') = mj_v τ s w e' k') → (∀ k', k' < k → M2.1 55 0 (8 * e + k') = mj_v τ s w e k') → ∀ z5 z6 z7 z8 z9 z10 z11 z12, X d 97 10 [some (.inr (.inl (28, 0))), some (.inl (nI p)), some (.inl (nI s)), some (.inl (nI e)), some (.inl (nI k)), z5, z6, z7, z8, z9, z10, z11, z12] [] M2 Q := by
        intro t2
        induction t2 with
        | zero =>
          intro k hk M2 fr2 hd1 hd2 z5 z6 z7 z8 z9 z10 z11 z12
          have hk : k = 6 := by omega
          subst hk
          have r2 : M2.1 41 0 2 = nI (ta_ru τ 2) := (fr2.2 41 0 2 (by simp)).trans (h5 2 (by omega))
          have r3 : M2.1 41 0 3 = nI (ta_ru τ 3) := (fr2.2 41 0 3 (by simp)).trans (h5 3 (by omega))
          refine am_go hX [2] 60 ?_
          refine ⟨fun _ => ?_, fun (q : ¬ (6 : Int32) ≤ nI 6) => absurd (by decide) q⟩
          refine ⟨2, by show 2 < 6; omega, rfl, 8 * e + 6, by show 8 * e + 6 < 32; omega, ix8 6, 3, by show 3 < 6; omega, rfl, 8 * e + 7, by show 8 * e + 7 < 32; omega, ix8 7, ?_⟩
          refine (fun (z : X d 97 2 [some (.inr (.inl (28, 0))), some (.inl (nI p)), some (.inl (nI s)), some (.inl (nI e + 1)), some (.inl (nI 6)), z5, z6, z7, z8, z9, z10, z11, z12] [] (am_si (am_si M2 55 0 (8 * e + 6) (M2.1 41 0 2)) 55 0 (8 * e + 7) (M2.1 41 0 3)) Q) => z) ?_
          rw [nI_1, r2, r3]
          refine ih (e + 1) (by omega) _ (am_fr_si (am_fr_si fr2 (by simp)) (by simp)) (fun e' k' he' hk' => ?_) _ _ _ _ _ _ _ _ _
          rw [am_si_at, am_si_at]
          by_cases z : e' = e
          · subst z
            by_cases c7 : k' = 7
            · subst c7; rw [if_pos ⟨rfl, rfl, rfl⟩]; rfl
            · rw [if_neg (by omega)]
              by_cases c6 : k' = 6
              · subst c6; rw [if_pos ⟨rfl, rfl, rfl⟩]; rfl
              · rw [if_neg (by omega)]; exact hd2 k' (by omega)
          · rw [if_neg (by omega), if_neg (by omega)]; exact hd1 e' k' (by omega) hk'
        | succ t2 ih2 =>
          intro k hk M2 fr2 hd1 hd2 z5 z6 z7 z8 z9 z10 z11 z12
          have e4 : M2.1 44 0 p = nI (wd_n w) := (fr2.2 44 0 p (by simp)).trans w2
          have hT2 : rm_T M2 τ := rm_T_fr hT (am_fg_of fr2 []) (by simp)
          -- behind this pick
          have nxt : ∀ (M3 : am_M), am_fr [55] M M3 → (∀ j, j ≠ 8 * e + k → M3.1 55 0 j = M2.1 55 0 j) → M3.1 55 0 (8 * e + k) = mj_v τ s w e k → ∀ z5 z6 z7 z8 z9 z10 z11 z12, X d 97 124 [some (.inr (.inl (28, 0))), some (.inl (nI p)), some (.inl (nI s)), some (.inl (nI e)), some (.inl (nI k)), z5, z6, z7, z8, z9, z10, z11, z12] [] M3 Q := by
            intro M3 fr3 hsame hval z5 z6 z7 z8 z9 z10 z11 z12
            refine am_go hX [10] 60 ?_
            refine (fun (z : X d 97 10 [some (.inr (.inl (28, 0))), some (.inl (nI p)), some (.inl (nI s)), some (.inl (nI e)), some (.inl (nI k + 1)), z5, z6, z7, z8, z9, z10, z11, z12] [] M3 Q) => z) ?_
            rw [nI_1]
            refine ih2 (k + 1) (by omega) M3 fr3 (fun e' k' he' hk' => ?_) (fun k' hk' => ?_) _ _ _ _ _ _ _ _
            · rw [hsame _ (by omega)]; exact hd1 e' k' he' hk'
            · by_cases z : k' = k
              · subst z; exact hval
              · rw [hsame _ (by omega)]; exact hd2 k' (by omega)
          have fr3 : am_fr [55] M (am_si M2 55 0 (8 * e + k) (-1)) := am_fr_si fr2 (by simp)
          have sm3 : ∀ j, j ≠ 8 * e + k → (am_si M2 55 0 (8 * e + k) (-1)).1 55 0 j = M2.1 55 0 j := fun j hj => by rw [am_si_at, if_neg (fun z => hj z.2.2)]
          have at3 : (am_si M2 55 0 (8 * e + k) (-1)).1 55 0 (8 * e + k) = -1 := by rw [am_si_at, if_pos ⟨rfl, rfl, rfl⟩]
          have ix6 : 6 * nI p + nI k = nI (6 * p + k) := by rw [show (6 : Int32) = nI 6 from rfl, pk_mul, nI_add]
          refine am_go hX [10, 40, 124] 60 ?_
          refine ⟨fun (q : (6 : Int32) ≤ nI k) => absurd q (nI_ge (b := 6) (by omega) (by decide)), fun _ => ?_⟩
          refine ⟨8 * e + k, by show 8 * e + k < 32; omega, ix8 k, p, hp, rfl, fun (q : M2.1 44 0 p ≤ nI k) => ?_, fun (q : ¬ M2.1 44 0 p ≤ nI k) => ?_⟩
          · rw [e4] at q
            have q := (nI_leI (by omega) (by omega)).mp q
            refine nxt _ fr3 sm3 ?_ _ _ _ _ _ _ _ _
            rw [at3, mj_v, if_pos (by omega), if_neg (by omega)]
          · rw [e4] at q
            have hkn : k < wd_n w := by
              rcases Nat.lt_or_ge k (wd_n w) with z | z
              · exact z
              · exact absurd (nI_le z (by omega)) q
            have hok := o3 k hkn
            have htr : ∀ j, j < 9 → M2.1 (46 + j) 0 (6 * p + k) = wd_t w k j := fun j hj => (fr2.2 (46 + j) 0 _ (by simp; omega)).trans (w3 k hkn j hj)
            have r8 : M2.1 54 0 (6 * p + k) = wd_t w k 8 := htr 8 (by omega)
            refine ⟨6 * p + k, by show 6 * p + k < 48; omega, ix6, fun (q8 : M2.1 54 0 (6 * p + k) = 0) => ?_, fun (q8 : ¬ M2.1 54 0 (6 * p + k) = 0) => ?_⟩
            · -- the track is looked for
              refine (fun (z : X d 97 40 [some (.inr (.inl (28, 0))), some (.inl (nI p)), some (.inl (nI s)), some (.inl (nI e)), some (.inl (nI k)), some (.inl (6 * nI p + nI k)), z6, z7, z8, z9, z10, z11, z12] [] (am_si M2 55 0 (8 * e + k) (-1)) Q) => z) ?_
              rw [ix6]
              have hT3 : rm_T (am_si M2 55 0 (8 * e + k) (-1)) τ := rm_T_fr hT (am_fg_of fr3 []) (by simp)
              generalize hM3 : am_si M2 55 0 (8 * e + k) (-1) = M3 at fr3 sm3 at3 hT3 ⊢
              have htr3 : ∀ j, j < 9 → M3.1 (46 + j) 0 (6 * p + k) = wd_t w k j := fun j hj => (fr3.2 (46 + j) 0 _ (by simp; omega)).trans (w3 k hkn j hj)
              have q8 : wd_t w k 8 = 0 := r8.symm.trans q8
              obtain ⟨c1, c2, c3, c4, c5⟩ := id hT3
              obtain ⟨d1, d2, d3, d4⟩ := c3 s hs
              have hmo : (nI (ta_mo τ s)).toInt = (ta_mo τ s : Int) := nI_toInt (by omega)
              have bfx := tk_f_bd (τ := τ) hok (show (0 : Int) ≤ ta_mo τ s by omega) (by omega) (c := 0) (Or.inl rfl)
              have bfy := tk_f_bd (τ := τ) hok (show (0 : Int) ≤ ta_mo τ s by omega) (by omega) (c := 1) (Or.inr rfl)
              obtain ⟨bx, by_⟩ := ta_rx_bd hτ hs hen
              unfold ta_in at bx by_
              have ix4 : 4 * nI s + nI e = nI (4 * s + e) := by rw [show (4 : Int32) = nI 4 from rfl, pk_mul, nI_add]
              refine am_go hX [10, 114, 124] 90 ?_
              refine am_cc hd (cm_rightX hX _ _ τ hτ hT3 s e hs hen _ ?_)
              refine ⟨s, by show s < 12; omega, rfl, am_cc hd (cm_foretold hX _ _ τ hkd c4 (6 * p + k) (by omega) (wd_t w k) htr3 hok (M3.1 32 0 s) (by rw [d2, hmo]; omega) (by rw [d2, hmo]; omega) 0 (Or.inl rfl) _ (fun vx hvx => ?_))⟩
              refine am_cc hd (cm_rightY hX _ _ τ hτ hT3 s e hs hen _ ?_)
              refine ⟨s, by show s < 12; omega, rfl, am_cc hd (cm_foretold hX _ _ τ hkd c4 (6 * p + k) (by omega) (wd_t w k) htr3 hok (M3.1 32 0 s) (by rw [d2, hmo]; omega) (by rw [d2, hmo]; omega) 1 (Or.inr rfl) _ (fun vy hvy => ?_))⟩
              have hvx : vx.toInt = tk_f τ (wd_t w k) (ta_mo τ s) 0 := by
                have hvx : vx.toInt = tk_f τ (wd_t w k) (M3.1 32 0 s).toInt 0 := hvx
                rw [d2, hmo] at hvx; exact hvx
              have hvy : vy.toInt = tk_f τ (wd_t w k) (ta_mo τ s) 1 := by
                have hvy : vy.toInt = tk_f τ (wd_t w k) (M3.1 32 0 s).toInt 1 := hvy
                rw [d2, hmo] at hvy; exact hvy
              have fx : ((ta_rx τ s e).toInt64 - vx).toInt = (ta_rx τ s e).toInt - tk_f τ (wd_t w k) (ta_mo τ s) 0 := by rw [lz_sub (by rw [lz_of, hvx]; omega) (by rw [lz_of, hvx]; omega), lz_of, hvx]
              have fy : ((ta_ry τ s e).toInt64 - vy).toInt = (ta_ry τ s e).toInt - tk_f τ (wd_t w k) (ta_mo τ s) 1 := by rw [lz_sub (by rw [lz_of, hvy]; omega) (by rw [lz_of, hvy]; omega), lz_of, hvy]
              have g0 : (M3.1 41 0 0).toInt64.toInt = (ta_ru τ 0 : Int) := by rw [lz_of, c5 0 (by omega), nI_toInt (by omega)]
              have gb := iz_sq (a := (ta_ru τ 0 : Int)) (b := 500) (by omega) (by omega)
              have gg : ((M3.1 41 0 0).toInt64 * (M3.1 41 0 0).toInt64).toInt = (ta_ru τ 0 * ta_ru τ 0 : Nat) := by rw [lz_mul (by rw [g0]; omega) (by rw [g0]; omega), g0, Int.natCast_mul]
              have hck : ck_toll ((M3.1 41 0 0).toInt64 * (M3.1 41 0 0).toInt64) ((ta_rx τ s e).toInt64 - vx) ((ta_ry τ s e).toInt64 - vy) = if tk_sq τ (wd_t w k) s e ≤ ta_ru τ 0 * ta_ru τ 0 then nI (tk_sq τ (wd_t w k) s e) else -1 := ck_toll_ok gg hgate fx fy (by omega) (by omega)
              unfold ck_toll at hck
              refine ⟨4 * s + e, by show 4 * s + e < 48; omega, ix4, 0, by show 0 < 6; omega, rfl, 0, by show 0 < 6; omega, rfl, ?_⟩
              have em : M3.1 36 0 (4 * s + e) = nI (ta_dm τ s e) := (d4 e hen).2.2
              have ek : M3.1 53 0 (6 * p + k) = wd_t w k 7 := htr3 7 (by omega)
              have mz : nI (ta_dm τ s e) = 0 ↔ ta_dm τ s e = 0 := nI_eq (a := ta_dm τ s e) (b := 0) (by have := (b4 e hen).2.2; omega) (by decide)
              have l6 : 6 * p + k < 48 := by omega
              -- the store
              have st : ∀ (sq : Int64), (wd_t w k 7 = 0 ∨ ta_dm τ s e = 0 ∨ wd_t w k 7 = nI (ta_dm τ s e)) → sq.toInt32 = ck_tl (tk_toll τ (wd_t w k) s e) → ∀ z6 z7 z8 z9 z11 z12, X d 97 114 [some (.inr (.inl (28, 0))), some (.inl (nI p)), some (.inl (nI s)), some (.inl (nI e)), some (.inl (nI k)), some (.inl (nI (6 * p + k))), z6, z7, z8, z9, some (.inr (.inr (sq))), z11, z12] [] M3 Q := by
                intro sq hm hsq z6 z7 z8 z9 z11 z12
                refine am_go hX [124] 60 ?_
                refine ⟨8 * e + k, by show 8 * e + k < 32; omega, ix8 k, ?_⟩
                refine nxt (am_si M3 55 0 (8 * e + k) sq.toInt32) (am_fr_si fr3 (by simp)) (fun j hj => ?_) ?_ _ _ _ _ _ _ _ _
                · rw [am_si_at, if_neg (fun z => hj z.2.2)]; exact sm3 j hj
                · rw [am_si_at, if_pos ⟨rfl, rfl, rfl⟩, mj_v, if_pos (by omega), if_pos hkn]; exact hsq
              refine ⟨fun (q : 0 < lg_cmp (((ta_rx τ s e).toInt64 - vx) * ((ta_rx τ s e).toInt64 - vx) + ((ta_ry τ s e).toInt64 - vy) * ((ta_ry τ s e).toInt64 - vy)) ((M3.1 41 0 0).toInt64 * (M3.1 41 0 0).toInt64)) => ?_, fun (q : ¬ 0 < lg_cmp (((ta_rx τ s e).toInt64 - vx) * ((ta_rx τ s e).toInt64 - vx) + ((ta_ry τ s e).toInt64 - vy) * ((ta_ry τ s e).toInt64 - vy)) ((M3.1 41 0 0).toInt64 * (M3.1 41 0 0).toInt64)) => ?_⟩
              · rw [if_pos q] at hck
                refine nxt M3 fr3 sm3 ?_ _ _ _ _ _ _ _ _
                rw [at3, mj_v, if_pos (by omega), if_pos hkn]
                unfold tk_toll
                by_cases z : tk_sq τ (wd_t w k) s e ≤ ta_ru τ 0 * ta_ru τ 0
                · rw [if_pos z] at hck
                  exact absurd hck.symm (ck_tl_m (by have := Nat.mul_le_mul hgate hgate; omega))
                · rw [if_neg (fun y => z y.2.2)]; rfl
              · rw [if_neg q] at hck
                have hsq : tk_sq τ (wd_t w k) s e ≤ ta_ru τ 0 * ta_ru τ 0 := by
                  rw [lg_cmp_gt, Int64.lt_iff_toInt_lt, gg] at q
                  have sx := iz_sq (a := (ta_rx τ s e).toInt - tk_f τ (wd_t w k) (ta_mo τ s) 0) (b := 2100000) (by omega) (by omega)
                  have sy := iz_sq (a := (ta_ry τ s e).toInt - tk_f τ (wd_t w k) (ta_mo τ s) 1) (b := 2100000) (by omega) (by omega)
                  have ex : (((ta_rx τ s e).toInt64 - vx) * ((ta_rx τ s e).toInt64 - vx)).toInt = ((ta_rx τ s e).toInt - tk_f τ (wd_t w k) (ta_mo τ s) 0) * ((ta_rx τ s e).toInt - tk_f τ (wd_t w k) (ta_mo τ s) 0) := by rw [lz_mul (by rw [fx]; omega) (by rw [fx]; omega), fx]
                  have ey : (((ta_ry τ s e).toInt64 - vy) * ((ta_ry τ s e).toInt64 - vy)).toInt = ((ta_ry τ s e).toInt - tk_f τ (wd_t w k) (ta_mo τ s) 1) * ((ta_ry τ s e).toInt - tk_f τ (wd_t w k) (ta_mo τ s) 1) := by rw [lz_mul (by rw [fy]; omega) (by rw [fy]; omega), fy]
                  rw [lz_add (by rw [ex, ey]; omega) (by rw [ex, ey]; omega), ex, ey] at q
                  unfold tk_sq
                  omega
                rw [if_pos hsq] at hck
                have toll : (wd_t w k 7 = 0 ∨ ta_dm τ s e = 0 ∨ wd_t w k 7 = nI (ta_dm τ s e)) → nI (tk_sq τ (wd_t w k) s e) = ck_tl (tk_toll τ (wd_t w k) s e) := by
                  intro hm; unfold tk_toll; rw [if_pos ⟨q8, hm, hsq⟩]; rfl
                refine ⟨fun (q1 : M3.1 36 0 (4 * s + e) = 0) => ?_, fun (q1 : ¬ M3.1 36 0 (4 * s + e) = 0) => ?_⟩
                · rw [em] at q1
                  have hm : wd_t w k 7 = 0 ∨ ta_dm τ s e = 0 ∨ wd_t w k 7 = nI (ta_dm τ s e) := Or.inr (Or.inl (mz.mp q1))
                  exact st _ hm (hck.trans (toll hm)) _ _ _ _ _ _
                · rw [em] at q1
                  refine ⟨6 * p + k, l6, rfl, fun (q2 : M3.1 53 0 (6 * p + k) = 0) => ?_, fun (q2 : ¬ M3.1 53 0 (6 * p + k) = 0) => ?_⟩
                  · rw [ek] at q2
                    exact st _ (Or.inl q2) (hck.trans (toll (Or.inl q2))) _ _ _ _ _ _
                  · rw [ek] at q2
                    refine ⟨6 * p + k, l6, rfl, fun (q3 : ¬ M3.1 36 0 (4 * s + e) = M3.1 53 0 (6 * p + k)) => ?_, fun (q3 : ¬ ¬ M3.1 36 0 (4 * s + e) = M3.1 53 0 (6 * p + k)) => ?_⟩
                    · rw [em, ek] at q3
                      refine nxt M3 fr3 sm3 ?_ _ _ _ _ _ _ _ _
                      rw [at3, mj_v, if_pos (by omega), if_pos hkn]
                      unfold tk_toll
                      rw [if_neg (fun y => y.2.1.elim q2 (fun z => z.elim (fun z => q1 (mz.mpr z)) (fun z => q3 z.symm)))]; rfl
                    · have q3 := Classical.not_not.mp q3
                      rw [em, ek] at q3
                      have hm : wd_t w k 7 = 0 ∨ ta_dm τ s e = 0 ∨ wd_t w k 7 = nI (ta_dm τ s e) := Or.inr (Or.inr q3.symm)
                      exact st _ hm (hck.trans (toll hm)) _ _ _ _ _ _
            · refine nxt _ fr3 sm3 ?_ _ _ _ _ _ _ _ _
              rw [at3, mj_v, if_pos (by omega), if_pos hkn]
              unfold tk_toll
              rw [if_neg (fun y => q8 (r8.trans y.1))]; rfl
      refine am_go hX [10] 40 ?_
      refine ⟨s, by show s < 12; omega, rfl, fun (q : M'.1 33 0 s ≤ nI e) => absurd q (by rw [e3]; exact nI_ge hen (by omega)), fun _ => ?_⟩
      exact inner 6 0 (by omega) M' fr hdone (fun k' hk' => by omega) _ _ _ _ _ _ _ _
  exact outer (ta_dn τ s) 0 (by omega) M (am_fr_rf _ M) (fun e' k he' => by omega) _ _ _ _ _ _ _ _ _
end
section
/-! codes and their digits; what a code costs -/
def dg (n c e : Nat) : Nat := c / 8 ^ (n - 1 - e) % 8
theorem dg_lt (n c e : Nat) : dg n c e < 8 := Nat.mod_lt _ (by decide)
theorem mk_and7' : ∀ a, a < 64 → ∀ b, b < 64 → nI (64 * a + b) &&& 7 = nI (b % 8) := by decide +kernel
theorem mk_and7 (m : Nat) (h : m < 4096) : nI m &&& 7 = nI (m % 8) := by
  have := mk_and7' (m / 64) (by omega) (m % 64) (by omega)
  rw [show 64 * (m / 64) + m % 64 = m by omega] at this
  rw [this]; congr 1; omega
theorem mk_bit : ∀ m, m < 64 → ∀ k, k < 6 → (nI m >>> (nI k &&& 31)) &&& 1 = if m.testBit k = true then 1 else 0 := by decide +kernel
theorem mk_or : ∀ m, m < 64 → ∀ k, k < 6 → nI m ||| ((1 : Int32) <<< (nI k &&& 31)) = nI (m ||| 2 ^ k) ∧ m ||| 2 ^ k < 64 := by decide +kernel
theorem cm_digit {X : am_X} (hX : am_Cl X) (d : Nat) (M : am_M) (n c e : Nat) (hn : n ≤ 4) (he : e < n) (hc : c < 4096) (Q : am_P) (h : Q (some (.inl (nI (dg n c e)))) M) : X d 98 0 [some (.inr (.inl (28, 0))), some (.inl (nI c)), some (.inl (nI n)), some (.inl (nI e))] [] M Q := by
  refine am_go hX [] 30 ?_
  have e1 : 3 * (nI n - 1 - nI e) = nI (3 * (n - 1 - e)) := by
    obtain ⟨t, rfl⟩ : ∃ t, n = t + 1 := ⟨n - 1, by omega⟩
    rw [nI_pred, pk_sub (by omega), show (3 : Int32) = nI 3 from rfl, pk_mul]; rfl
  have e2 : nI c >>> (nI (3 * (n - 1 - e)) &&& 31) = nI (c / 2 ^ (3 * (n - 1 - e))) := by
    have : n - 1 - e = 0 ∨ n - 1 - e = 1 ∨ n - 1 - e = 2 ∨ n - 1 - e = 3 := by omega
    rcases this with z | z | z | z <;> rw [z] <;> exact pk_shrN (by omega) _ _ (by decide)
  have e3 : c / 2 ^ (3 * (n - 1 - e)) = c / 8 ^ (n - 1 - e) := by rw [Nat.pow_mul]
  have e4 : nI c >>> (3 * (nI n - 1 - nI e) &&& 31) &&& 7 = nI (dg n c e) := by
    rw [e1, e2, e3, mk_and7 _ (Nat.lt_of_le_of_lt (Nat.div_le_self _ _) hc)]; rfl
  refine (fun (z : Q (some (.inl (nI c >>> (3 * (nI n - 1 - nI e) &&& 31) &&& 7))) M) => z) ?_
  rw [e4]; exact h
/-- a code's digits tried one by one: what the dots cost, which tracks are taken -/
def jv (T : Nat → Nat → Option Nat) (nT birth fals : Nat) (g : Nat → Nat) : Nat → Nat → (Nat → Bool) → Nat → Option (Nat × (Nat → Bool))
  | 0, _, tak, _ => some (0, tak)
  | r + 1, e, tak, b =>
    if g e < nT then (match T (g e) e with
      | none => none
      | some t => if tak (g e) = true then none else (jv T nT birth fals g r (e + 1) (fun j => bif Nat.beq j (g e) then true else tak j) b).map fun q => (t + q.1, q.2))
    else if g e = 6 then (if nT + b < 6 then (jv T nT birth fals g r (e + 1) tak (b + 1)).map fun q => (birth + q.1, q.2) else none)
    else if g e = 7 then (jv T nT birth fals g r (e + 1) tak b).map fun q => (fals + q.1, q.2) else none
set_option maxHeartbeats 1000000 in
theorem cm_costOf {X : am_X} (hX : am_Cl X) (d : Nat) (M : am_M) (hd : 1 ≤ d) (τ : ta) (hτ : ta_ok τ) (hT : rm_T M τ) (s p : Nat) (hs : s < ta_n τ) (hp : p < 8) (P : Nat → Prop) (w : wd) (hW : rm_W M τ P p w) (m0 : Nat) (hw : wd_ok m0 w) (hj : ∀ e k, e < ta_dn τ s → k < 8 → M.1 55 0 (8 * e + k) = mj_v τ s w e k) (c : Nat) (hc : c < 4096) (Q : am_P)
    (h0 : jv (fun k e => tk_toll τ (wd_t w k) s e) (wd_n w) (ta_ru τ 2) (ta_ru τ 3) (dg (ta_dn τ s) c) (ta_dn τ s) 0 (fun _ => false) 0 = none → Q (some (.inl (-1))) M)
    (h1 : ∀ x tak, jv (fun k e => tk_toll τ (wd_t w k) s e) (wd_n w) (ta_ru τ 2) (ta_ru τ 3) (dg (ta_dn τ s) c) (ta_dn τ s) 0 (fun _ => false) 0 = some (x, tak) → x + jn_cnt (fun k => decide (wd_t w k 8 = 0)) tak (wd_n w) * ta_ru τ 1 ≤ 1600000 → Q (some (.inl (nI (x + jn_cnt (fun k => decide (wd_t w k 8 = 0)) tak (wd_n w) * ta_ru τ 1)))) M) :
    X d 99 0 [some (.inr (.inl (28, 0))), some (.inl (nI p)), some (.inl (nI s)), some (.inl (nI c)), none, none, none, none, none, none] [] M Q := by
  obtain ⟨t1, t2, t3, t4, t5⟩ := id hT
  obtain ⟨a1, a2, a3, a4⟩ := t3 s hs
  obtain ⟨b1, b2, b3, b4⟩ := hτ.2.2.1 s hs
  obtain ⟨w1, w2, w3, -⟩ := hW
  obtain ⟨o1, o2, o3⟩ := hw
  have hn := hτ.1
  obtain ⟨ru0, ru1, ru2, ru3, ru4, ru5⟩ := hτ.2.2.2.2
  generalize hn' : ta_dn τ s = n at *
  generalize hnT : wd_n w = nT at *
  have hTT : ∀ k e t, tk_toll τ (wd_t w k) s e = some t → t ≤ 250000 := fun k e t q => (tk_toll_le hτ q).1
  generalize hTf : (fun k e => tk_toll τ (wd_t w k) s e) = T at h0 h1
  have hTe : ∀ k e, T k e = tk_toll τ (wd_t w k) s e := fun k e => by rw [← hTf]
  refine am_go hX [16] 40 ?_
  refine ⟨s, by show s < 12; omega, rfl, p, hp, rfl, ?_⟩
  refine (fun (z : X d 99 16 [some (.inr (.inl (28, 0))), some (.inl (nI p)), some (.inl (nI s)), some (.inl (nI c)), some (.inl (M.1 33 0 s)), some (.inl (nI 0)), some (.inl (nI 0)), some (.inl (M.1 44 0 p)), some (.inl (nI 0)), none] [] M Q) => z) ?_
  rw [a3, w2]
  -- second loop: tracks that get none
  have tail : ∀ (x m : Nat) (tak : Nat → Bool), x ≤ 1000000 → m < 64 → (∀ k, k < 6 → tak k = m.testBit k) → (x + jn_cnt (fun k => decide (wd_t w k 8 = 0)) tak nT * ta_ru τ 1 ≤ 1600000 → Q (some (.inl (nI (x + jn_cnt (fun k => decide (wd_t w k 8 = 0)) tak nT * ta_ru τ 1)))) M) → ∀ r k, k + r = nT → ∀ (z7 : Int32) z9, X d 99 87 [some (.inr (.inl (28, 0))), some (.inl (nI p)), some (.inl (nI s)), some (.inl (nI c)), some (.inl (nI n)), some (.inl (nI (x + jn_cnt (fun k => decide (wd_t w k 8 = 0)) tak k * ta_ru τ 1))), some (.inl (nI m)), some (.inl (z7)), some (.inl (nI k)), z9] [] M Q := by
    intro x m tak hx hm htk hq r
    induction r with
    | zero =>
      intro k hk z7 z9
      have hk : k = nT := by omega
      subst hk
      have hcl := jn_cnt_le (fun k => decide (wd_t w k 8 = 0)) tak k
      have hmul : jn_cnt (fun k => decide (wd_t w k 8 = 0)) tak k * ta_ru τ 1 ≤ 6 * 100000 := Nat.mul_le_mul (by omega) ru1
      refine am_go hX [87] 40 ?_
      exact ⟨p, hp, rfl, fun _ => hq (by omega), fun (q : ¬ M.1 44 0 p ≤ nI k) => absurd (by rw [w2]; exact nI_le (Nat.le_refl _) (by omega)) q⟩
    | succ r ih =>
      intro k hk z7 z9
      have r8 : M.1 54 0 (6 * p + k) = wd_t w k 8 := w3 k (by omega) 8 (by omega)
      have ix6 : 6 * nI p + nI k = nI (6 * p + k) := by rw [show (6 : Int32) = nI 6 from rfl, pk_mul, nI_add]
      have hbit := mk_bit m hm k (by omega)
      have nxt : ∀ v : Nat, jn_cnt (fun k => decide (wd_t w k 8 = 0)) tak (k + 1) * ta_ru τ 1 = jn_cnt (fun k => decide (wd_t w k 8 = 0)) tak k * ta_ru τ 1 + v → ∀ y : Int32, y = nI v → X d 99 87 [some (.inr (.inl (28, 0))), some (.inl (nI p)), some (.inl (nI s)), some (.inl (nI c)), some (.inl (nI n)), some (.inl (nI (x + jn_cnt (fun k => decide (wd_t w k 8 = 0)) tak k * ta_ru τ 1) + y)), some (.inl (nI m)), some (.inl (z7)), some (.inl (nI k + 1)), z9] [] M Q := by
        rintro v hv y rfl
        rw [nI_1, nI_add, Nat.add_assoc, ← hv]
        exact ih (k + 1) (by omega) z7 z9
      refine am_go hX [87] 60 ?_
      refine ⟨p, hp, rfl, fun (q : M.1 44 0 p ≤ nI k) => absurd q (by rw [w2]; exact nI_ge (by omega) (by omega)), fun _ => ?_⟩
      refine ⟨6 * p + k, by show 6 * p + k < 48; omega, ix6, fun (q : ¬ M.1 54 0 (6 * p + k) = 0) => ?_, fun (q : ¬ ¬ M.1 54 0 (6 * p + k) = 0) => ?_⟩
      · rw [r8] at q
        refine nxt 0 ?_ 0 rfl
        rw [jn_cnt, if_neg (fun z => q (by simpa using z.1)), Nat.add_zero, Nat.add_zero]
      · have q := Classical.not_not.mp q
        rw [r8] at q
        refine ⟨fun (q2 : ¬ (nI m >>> (nI k &&& 31)) &&& 1 = 0) => ?_, fun (q2 : ¬ ¬ (nI m >>> (nI k &&& 31)) &&& 1 = 0) => ?_⟩
        · rw [hbit] at q2
          have q2 : m.testBit k = true := by
            cases z : m.testBit k with
            | true => rfl
            | false => rw [z] at q2; exact absurd rfl q2
          refine nxt 0 ?_ 0 rfl
          rw [jn_cnt, if_neg (fun z => by rw [htk k (by omega), q2] at z; exact absurd z.2 (by decide)), Nat.add_zero, Nat.add_zero]
        · have q2 := Classical.not_not.mp q2
          rw [hbit] at q2
          have q2 : m.testBit k = false := by
            cases z : m.testBit k with
            | false => rfl
            | true => rw [z] at q2; exact absurd q2 (by decide)
          refine ⟨1, by show 1 < 6; omega, rfl, ?_⟩
          refine nxt (ta_ru τ 1) ?_ _ (t5 1 (by omega))
          rw [jn_cnt, if_pos ⟨by simpa using q, by rw [htk k (by omega), q2]⟩, Nat.add_mul, Nat.one_mul]
  -- first loop: the dots
  have dots : ∀ r e : Nat, e + r = n → ∀ (x m b : Nat) (tak : Nat → Bool), x ≤ e * 250000 → m < 64 → nT + b ≤ 6 → (∀ k, k < 6 → tak k = m.testBit k) →
      (jv T nT (ta_ru τ 2) (ta_ru τ 3) (dg n c) r e tak b = none → Q (some (.inl (-1))) M) →
      (∀ y tak', jv T nT (ta_ru τ 2) (ta_ru τ 3) (dg n c) r e tak b = some (y, tak') → x + y + jn_cnt (fun k => decide (wd_t w k 8 = 0)) tak' nT * ta_ru τ 1 ≤ 1600000 → Q (some (.inl (nI (x + y + jn_cnt (fun k => decide (wd_t w k 8 = 0)) tak' nT * ta_ru τ 1)))) M) →
      ∀ z9, X d 99 16 [some (.inr (.inl (28, 0))), some (.inl (nI p)), some (.inl (nI s)), some (.inl (nI c)), some (.inl (nI n)), some (.inl (nI x)), some (.inl (nI m)), some (.inl (nI (nT + b))), some (.inl (nI e)), z9] [] M Q := by
    intro r
    induction r with
    | zero =>
      intro e he x m b tak hx hm hb htk g0 g1 z9
      have he : e = n := by omega
      subst he
      refine am_go hX [16, 87] 40 ?_
      refine ⟨fun _ => ?_, fun (q : ¬ nI e ≤ nI e) => absurd (nI_le (Nat.le_refl _) (by omega)) q⟩
      have := tail x m tak (by omega) hm htk (fun q => g1 0 tak rfl q) nT 0 (by omega) (nI (nT + b)) z9
      rw [jn_cnt, Nat.zero_mul, Nat.add_zero] at this
      exact this
    | succ r ih =>
      intro e he x m b tak hx hm hb htk g0 g1 z9
      have hen : e < n := by omega
      have hg8 := dg_lt n c e
      generalize hq : dg n c e = q at hg8
      have ix8 : 8 * nI e + nI q = nI (8 * e + q) := by rw [show (8 : Int32) = nI 8 from rfl, pk_mul, nI_add]
      have l32 : 8 * e + q < 32 := by omega
      have hjq := hj e q hen hg8
      have hbad : jv T nT (ta_ru τ 2) (ta_ru τ 3) (dg n c) (r + 1) e tak b = none → X d 99 50 [some (.inr (.inl (28, 0))), some (.inl (nI p)), some (.inl (nI s)), some (.inl (nI c)), some (.inl (nI n)), some (.inl (nI x)), some (.inl (nI m)), some (.inl (nI (nT + b))), some (.inl (nI e)), some (.inl (nI q))] [] M Q := by
        intro z
        refine am_go hX [] 20 ?_
        exact g0 z
      -- a good pick: what it costs, the mask, begun ones
      have good : ∀ (v m' b' : Nat) (tak' : Nat → Bool) (um : Int32) (ub : Int32), v ≤ 250000 → M.1 55 0 (8 * e + q) = nI v → m' < 64 → nT + b' ≤ 6 → (∀ k, k < 6 → tak' k = m'.testBit k) → um = nI m' → ub = nI (nT + b') → jv T nT (ta_ru τ 2) (ta_ru τ 3) (dg n c) (r + 1) e tak b = (jv T nT (ta_ru τ 2) (ta_ru τ 3) (dg n c) r (e + 1) tak' b').map (fun y => (v + y.1, y.2)) → X d 99 72 [some (.inr (.inl (28, 0))), some (.inl (nI p)), some (.inl (nI s)), some (.inl (nI c)), some (.inl (nI n)), some (.inl (nI x)), some (.inl (um)), some (.inl (ub)), some (.inl (nI e)), some (.inl (nI q))] [] M Q := by
        intro v m' b' tak' um ub hv hjv hm' hb' htk' hum hub hjv2
        subst hum hub
        refine am_go hX [16] 40 ?_
        refine ⟨8 * e + q, l32, ix8, ?_⟩
        refine (fun (z : X d 99 16 [some (.inr (.inl (28, 0))), some (.inl (nI p)), some (.inl (nI s)), some (.inl (nI c)), some (.inl (nI n)), some (.inl (nI x + M.1 55 0 (8 * e + q))), some (.inl (nI m')), some (.inl (nI (nT + b'))), some (.inl (nI e + 1)), some (.inl (nI q))] [] M Q) => z) ?_
        rw [hjv, nI_add, nI_1]
        refine ih (e + 1) (by omega) (x + v) m' b' tak' (by omega) hm' hb' htk' (fun z => g0 (by rw [hjv2, z]; rfl)) (fun y tk z1 z2 => ?_) _
        have := g1 (v + y) tk (by rw [hjv2, z1]; rfl)
        rw [← Nat.add_assoc] at this
        exact this z2
      have e52 : ∀ (v m' b' : Nat) (tak' : Nat → Bool), v ≤ 250000 → M.1 55 0 (8 * e + q) = nI v → m' < 64 → nT + b' ≤ 6 → (∀ k, k < 6 → tak' k = m'.testBit k) → (q < 6 → nI m ||| ((1 : Int32) <<< (nI q &&& 31)) = nI m') → (¬ q < 6 → m' = m) → (q = 6 → b' = b + 1) → (q ≠ 6 → b' = b) → jv T nT (ta_ru τ 2) (ta_ru τ 3) (dg n c) (r + 1) e tak b = (jv T nT (ta_ru τ 2) (ta_ru τ 3) (dg n c) r (e + 1) tak' b').map (fun y => (v + y.1, y.2)) → X d 99 52 [some (.inr (.inl (28, 0))), some (.inl (nI p)), some (.inl (nI s)), some (.inl (nI c)), some (.inl (nI n)), some (.inl (nI x)), some (.inl (nI m)), some (.inl (nI (nT + b))), some (.inl (nI e)), some (.inl (nI q))] [] M Q := by
        intro v m' b' tak' hv hjv hm' hb' htk' hm1 hm2 hb1 hb2 hjv2
        have e63 : ∀ um : Int32, um = nI m' → X d 99 63 [some (.inr (.inl (28, 0))), some (.inl (nI p)), some (.inl (nI s)), some (.inl (nI c)), some (.inl (nI n)), some (.inl (nI x)), some (.inl (um)), some (.inl (nI (nT + b))), some (.inl (nI e)), some (.inl (nI q))] [] M Q := by
          intro um hum
          refine am_go hX [72] 40 ?_
          refine ⟨fun (z : ¬ nI q = 6) => ?_, fun (z : ¬ ¬ nI q = 6) => ?_⟩
          · have z : q ≠ 6 := fun y => z (by rw [y]; rfl)
            exact good v m' b' tak' um _ hv hjv hm' hb' htk' hum (by rw [hb2 z]; exact Int32.add_zero _) hjv2
          · have z : q = 6 := (nI_eq (b := 6) (by omega) (by decide)).mp (Classical.not_not.mp z)
            exact good v m' b' tak' um _ hv hjv hm' hb' htk' hum (by rw [hb1 z]; exact nI_1 _) hjv2
        refine am_go hX [63] 40 ?_
        refine ⟨fun (z : (6 : Int32) ≤ nI q) => ?_, fun (z : ¬ (6 : Int32) ≤ nI q) => ?_⟩
        · have z := (nI_leI (a := 6) (by decide) (by omega)).mp z
          refine e63 _ ?_
          rw [hm2 (by omega)]
          exact Int32.or_zero
        · have z : q < 6 := by
            rcases Nat.lt_or_ge q 6 with y | y
            · exact y
            · exact absurd (nI_le (a := 6) y (by omega)) z
          exact e63 _ (hm1 z)
      refine am_go hX [16, 50, 52] 60 ?_
      refine ⟨fun (z : nI n ≤ nI e) => absurd z (nI_ge hen (by omega)), fun _ => am_cc hd (cm_digit hX _ _ n c e (by omega) hen hc _ ?_)⟩
      rw [hq]
      refine ⟨8 * e + q, l32, ix8, ?_⟩
      have hju : jv T nT (ta_ru τ 2) (ta_ru τ 3) (dg n c) (r + 1) e tak b = if q < nT then (match T q e with
          | none => none
          | some t => if tak q = true then none else (jv T nT (ta_ru τ 2) (ta_ru τ 3) (dg n c) r (e + 1) (fun j => bif Nat.beq j q then true else tak j) b).map fun y => (t + y.1, y.2))
        else if q = 6 then (if nT + b < 6 then (jv T nT (ta_ru τ 2) (ta_ru τ 3) (dg n c) r (e + 1) tak (b + 1)).map fun y => (ta_ru τ 2 + y.1, y.2) else none)
        else if q = 7 then (jv T nT (ta_ru τ 2) (ta_ru τ 3) (dg n c) r (e + 1) tak b).map fun y => (ta_ru τ 3 + y.1, y.2) else none := by rw [jv, hq]
      have nonneg : ∀ v : Nat, v ≤ 250000 → M.1 55 0 (8 * e + q) = nI v → ¬ M.1 55 0 (8 * e + q) < 0 := fun v hv z => by rw [z]; exact nI_pos (by omega)
      by_cases c1 : q < nT
      · rw [mj_v, if_pos (by omega), if_pos (by omega), ← hTe] at hjq
        rw [if_pos c1] at hju
        cases hTq : T q e with
        | none =>
          rw [hTq] at hjq hju
          exact ⟨fun _ => hbad hju, fun (z : ¬ M.1 55 0 (8 * e + q) < 0) => absurd (by rw [hjq]; decide) z⟩
        | some tl =>
          rw [hTq] at hjq hju
          have htl : tl ≤ 250000 := hTT q e tl (by rw [← hTe]; exact hTq)
          refine ⟨fun (z : M.1 55 0 (8 * e + q) < 0) => absurd z (nonneg tl htl hjq), fun _ => ?_⟩
          refine ⟨fun (z : (6 : Int32) ≤ nI q) => absurd z (nI_ge (b := 6) (by omega) (by decide)), fun _ => ?_⟩
          have hbit := mk_bit m hm q (by omega)
          have htq := htk q (by omega)
          dsimp only at hju
          refine ⟨fun (z : (nI m >>> (nI q &&& 31)) &&& 1 = 1) => ?_, fun (z : ¬ (nI m >>> (nI q &&& 31)) &&& 1 = 1) => ?_⟩
          · rw [hbit] at z
            have z : m.testBit q = true := by
              cases y : m.testBit q with
              | true => rfl
              | false => rw [y] at z; exact absurd z (by decide)
            rw [htq, z, if_pos rfl] at hju
            exact hbad hju
          · rw [hbit] at z
            have z : m.testBit q = false := by
              cases y : m.testBit q with
              | false => rfl
              | true => rw [y] at z; exact absurd rfl z
            rw [htq, z, if_neg (by decide)] at hju
            obtain ⟨or1, or2⟩ := mk_or m hm q (by omega)
            refine ⟨fun (y : ¬ nI q = 6) => ?_, fun (y : ¬ ¬ nI q = 6) => absurd ((nI_eq (b := 6) (by omega) (by decide)).mp (Classical.not_not.mp y)) (by omega)⟩
            refine e52 tl (m ||| 2 ^ q) b _ htl hjq or2 hb (fun k hk => ?_) (fun _ => or1) (fun y => by omega) (fun y => by omega) (fun _ => rfl) hju
            rw [Nat.testBit_or, Nat.testBit_two_pow]
            by_cases y : k = q
            · subst y; rw [Nat.beq_refl]; simp
            · have hbf : Nat.beq k q = false := by
                cases w : Nat.beq k q with
                | false => rfl
                | true => exact absurd (Nat.eq_of_beq_eq_true w) y
              rw [hbf]
              show tak k = _
              rw [htk k hk]
              have : decide (q = k) = false := by simp; omega
              rw [this, Bool.or_false]
      · rw [if_neg c1] at hju
        by_cases c6 : q < 6
        · rw [mj_v, if_pos c6, if_neg (by omega)] at hjq
          rw [if_neg (by omega), if_neg (by omega)] at hju
          exact ⟨fun _ => hbad hju, fun (z : ¬ M.1 55 0 (8 * e + q) < 0) => absurd (by rw [hjq]; decide) z⟩
        · rw [mj_v, if_neg c6] at hjq
          by_cases c66 : q = 6
          · rw [if_pos c66] at hjq hju
            refine ⟨fun (z : M.1 55 0 (8 * e + q) < 0) => absurd z (nonneg _ (by omega) hjq), fun _ => ?_⟩
            refine ⟨fun _ => ?_, fun (z : ¬ (6 : Int32) ≤ nI q) => absurd (nI_le (a := 6) (by omega) (by omega)) z⟩
            refine ⟨fun (z : ¬ nI q = 6) => absurd (by rw [c66]; rfl) z, fun _ => ?_⟩
            refine ⟨fun (z : ¬ nI (nT + b) = 6) => ?_, fun (z : ¬ ¬ nI (nT + b) = 6) => ?_⟩
            · have z : nT + b < 6 := by
                rcases Nat.lt_or_ge (nT + b) 6 with y | y
                · exact y
                · exact absurd (by rw [show nT + b = 6 by omega]; rfl) z
              rw [if_pos z] at hju
              exact e52 (ta_ru τ 2) m (b + 1) tak (by omega) hjq hm (by omega) htk (fun y => absurd y c6) (fun _ => rfl) (fun _ => rfl) (fun y => absurd c66 y) hju
            · have z := (nI_eq (b := 6) (by omega) (by decide)).mp (Classical.not_not.mp z)
              rw [if_neg (by omega)] at hju
              exact hbad hju
          · rw [if_neg c66] at hjq hju
            rw [if_pos (by omega)] at hju
            refine ⟨fun (z : M.1 55 0 (8 * e + q) < 0) => absurd z (nonneg _ (by omega) hjq), fun _ => ?_⟩
            refine ⟨fun _ => ?_, fun (z : ¬ (6 : Int32) ≤ nI q) => absurd (nI_le (a := 6) (by omega) (by omega)) z⟩
            refine ⟨fun _ => ?_, fun (z : ¬ ¬ nI q = 6) => absurd ((nI_eq (b := 6) (by omega) (by decide)).mp (Classical.not_not.mp z)) c66⟩
            exact e52 (ta_ru τ 3) m b tak (by omega) hjq hm hb htk (fun y => absurd y c6) (fun _ => rfl) (fun y => absurd y c66) (fun _ => rfl) hju
  exact dots n 0 (by omega) 0 0 0 (fun _ => false) (by omega) (by omega) (by omega) (fun k _ => by simp) h0 (fun y tak' z1 z2 => by rw [Nat.zero_add] at z2 ⊢; exact h1 y tak' z1 z2) _
end
section
/-! all codes, in their order, are all joins, in theirs -/
def dls : Nat → List (List Nat)
  | 0 => [[]]
  | r + 1 => (List.range 8).flatMap fun q => (dls r).map (q :: ·)
theorem jv_c (T : Nat → Nat → Option Nat) (nT birth fals : Nat) {g g' : Nat → Nat} : ∀ (r e : Nat) (tak : Nat → Bool) (b : Nat), (∀ i, e ≤ i → i < e + r → g i = g' i) → jv T nT birth fals g r e tak b = jv T nT birth fals g' r e tak b
  | 0, e, tak, b, h => rfl
  | r + 1, e, tak, b, h => by
    have he : g e = g' e := h e (Nat.le_refl e) (by omega)
    have hr : ∀ tak b, jv T nT birth fals g r (e + 1) tak b = jv T nT birth fals g' r (e + 1) tak b := fun tak b => jv_c T nT birth fals r (e + 1) tak b (fun i h1 h2 => h i (by omega) (by omega))
    simp only [jv, he, hr]
theorem rg_split {α : Type} (f : Nat → List α) (n : Nat) (hn : n ≤ 6) (h : ∀ q, n ≤ q → q < 6 → f q = []) : (List.range 8).flatMap f = (List.range n).flatMap f ++ (f 6 ++ f 7) := by
  have e8 : (List.range 8).flatMap f = f 0 ++ (f 1 ++ (f 2 ++ (f 3 ++ (f 4 ++ (f 5 ++ (f 6 ++ f 7)))))) := by
    show [0, 1, 2, 3, 4, 5, 6, 7].flatMap f = _
    simp
  rw [e8]
  match n, hn with
  | 0, _ => rw [h 0 (by omega) (by omega), h 1 (by omega) (by omega), h 2 (by omega) (by omega), h 3 (by omega) (by omega), h 4 (by omega) (by omega), h 5 (by omega) (by omega)]; simp
  | 1, _ => rw [h 1 (by omega) (by omega), h 2 (by omega) (by omega), h 3 (by omega) (by omega), h 4 (by omega) (by omega), h 5 (by omega) (by omega)]; simp [List.range_succ]
  | 2, _ => rw [h 2 (by omega) (by omega), h 3 (by omega) (by omega), h 4 (by omega) (by omega), h 5 (by omega) (by omega)]; simp [List.range_succ]
  | 3, _ => rw [h 3 (by omega) (by omega), h 4 (by omega) (by omega), h 5 (by omega) (by omega)]; simp [List.range_succ]
  | 4, _ => rw [h 4 (by omega) (by omega), h 5 (by omega) (by omega)]; simp [List.range_succ]
  | 5, _ => rw [h 5 (by omega) (by omega)]; simp [List.range_succ]
  | 6, _ => simp [List.range_succ]
theorem fl_c {α β : Type} {f g : α → List β} : ∀ (l : List α), (∀ x ∈ l, f x = g x) → l.flatMap f = l.flatMap g
  | [], _ => rfl
  | a :: l, h => by rw [List.flatMap_cons, List.flatMap_cons, h a List.mem_cons_self, fl_c l (fun x hx => h x (List.mem_cons_of_mem _ hx))]
theorem jn_sub_dls (T : Nat → Nat → Option Nat) (lv : Nat → Bool) (nT miss birth fals : Nat) (hn : nT ≤ 6) (hT : ∀ k e t, T k e = some t → lv k = true) : ∀ (r e c u b : Nat) (tak : Nat → Bool) (pre : List Nat), u = jn_cnt lv tak nT →
    jn_sub T nT miss birth fals r e c u b tak pre = (dls r).filterMap fun ds => (jv T nT birth fals (fun i => am_nth ds (i - e) 9) r e tak b).map fun y => (c + y.1 + jn_cnt lv y.2 nT * miss, pre ++ ds)
  | 0, e, c, u, b, tak, pre, hu => by
    simp [jn_sub, dls, jv, hu]
  | r + 1, e, c, u, b, tak, pre, hu => by
    -- one pick: the lists that begin with it
    have one : ∀ q, ((dls r).map (q :: ·)).filterMap (fun ds => (jv T nT birth fals (fun i => am_nth ds (i - e) 9) (r + 1) e tak b).map fun y => (c + y.1 + jn_cnt lv y.2 nT * miss, pre ++ ds)) =
        if q < nT then (match T q e with
          | none => []
          | some t => bif tak q then [] else jn_sub T nT miss birth fals r (e + 1) (c + t) (u - 1) b (fun j => bif Nat.beq j q then true else tak j) (pre ++ [q]))
        else if q = 6 then (if nT + b < 6 then jn_sub T nT miss birth fals r (e + 1) (c + birth) u (b + 1) tak (pre ++ [6]) else [])
        else if q = 7 then jn_sub T nT miss birth fals r (e + 1) (c + fals) u b tak (pre ++ [7]) else [] := by
      intro q
      rw [List.filterMap_map]
      have inner : ∀ (v : Nat) (tak' : Nat → Bool) (b' u' : Nat), u' = jn_cnt lv tak' nT → (dls r).filterMap (fun ds => ((jv T nT birth fals (fun i => am_nth (q :: ds) (i - e) 9) r (e + 1) tak' b').map fun y => (v + y.1, y.2)).map fun y => (c + y.1 + jn_cnt lv y.2 nT * miss, pre ++ (q :: ds))) = jn_sub T nT miss birth fals r (e + 1) (c + v) u' b' tak' (pre ++ [q]) := by
        intro v tak' b' u' hu'
        rw [jn_sub_dls T lv nT miss birth fals hn hT r (e + 1) (c + v) u' b' tak' (pre ++ [q]) hu']
        congr 1
        funext ds
        rw [jv_c T nT birth fals (g := fun i => am_nth (q :: ds) (i - e) 9) (g' := fun i => am_nth ds (i - (e + 1)) 9) r (e + 1) tak' b' (fun i h1 h2 => by
          show am_nth (q :: ds) (i - e) 9 = am_nth ds (i - (e + 1)) 9
          rw [show i - e = (i - (e + 1)) + 1 by omega]; rfl)]
        cases jv T nT birth fals (fun i => am_nth ds (i - (e + 1)) 9) r (e + 1) tak' b' with
        | none => rfl
        | some y => simp [Nat.add_assoc]
      have g0 : ∀ ds : List Nat, am_nth (q :: ds) (e - e) 9 = q := fun ds => by rw [Nat.sub_self]; rfl
      have allnone : (dls r).filterMap (fun _ => (none : Option (Nat × List Nat))) = [] := by simp
      by_cases c1 : q < nT
      · rw [if_pos c1]
        cases hTq : T q e with
        | none =>
          refine Eq.trans ?_ allnone
          congr 1; funext ds
          simp only [Function.comp, jv, g0, if_pos c1, hTq]; rfl
        | some t =>
          dsimp only
          cases htk : tak q with
          | true =>
            refine Eq.trans ?_ allnone
            congr 1; funext ds
            simp only [Function.comp, jv, g0, if_pos c1, hTq, htk]; rfl
          | false =>
            have hcnt := jn_cnt_tk lv tak q (hT q e t hTq) htk nT
            rw [if_pos c1] at hcnt
            refine Eq.trans ?_ (inner t (fun j => bif Nat.beq j q then true else tak j) b (u - 1) (by omega))
            congr 1; funext ds
            simp only [Function.comp, jv, g0, if_pos c1, hTq, htk]; rfl
      · rw [if_neg c1]
        by_cases c6 : q = 6
        · subst c6
          rw [if_pos rfl]
          by_cases cb : nT + b < 6
          · rw [if_pos cb]
            refine Eq.trans ?_ (inner birth tak (b + 1) u hu)
            congr 1; funext ds
            simp only [Function.comp, jv, g0, if_neg c1, if_pos, if_pos cb]
          · rw [if_neg cb]
            refine Eq.trans ?_ allnone
            congr 1; funext ds
            simp only [Function.comp, jv, g0, if_neg c1, if_pos, if_neg cb]; rfl
        · rw [if_neg c6]
          by_cases c7 : q = 7
          · subst c7
            rw [if_pos rfl]
            refine Eq.trans ?_ (inner fals tak b u hu)
            congr 1; funext ds
            simp only [Function.comp, jv, g0, if_neg c1, if_neg c6, if_pos]
          · rw [if_neg c7]
            refine Eq.trans ?_ allnone
            congr 1; funext ds
            simp only [Function.comp, jv, g0, if_neg c1, if_neg c6, if_neg c7]; rfl
    rw [dls, List.filterMap_flatMap]
    have hfun : (fun q => ((dls r).map (q :: ·)).filterMap (fun ds => (jv T nT birth fals (fun i => am_nth ds (i - e) 9) (r + 1) e tak b).map fun y => (c + y.1 + jn_cnt lv y.2 nT * miss, pre ++ ds))) = _ := funext one
    rw [hfun, rg_split _ nT hn (fun q h1 h2 => by rw [if_neg (by omega), if_neg (by omega), if_neg (by omega)])]
    rw [if_neg (show ¬ 6 < nT by omega), if_pos (show (6 : Nat) = 6 from rfl), if_neg (show ¬ 7 < nT by omega), if_neg (show ¬ (7 : Nat) = 6 by decide), if_pos (show (7 : Nat) = 7 from rfl)]
    rw [jn_sub]
    congr 1
    exact fl_c _ (fun q hq => by rw [if_pos (List.mem_range.mp hq)]; rfl)
/-- the lists of digits, by codes -/
theorem dls_map : ∀ (n : Nat) (g : Nat → Nat), dls n = (List.range (8 ^ n)).map (fun c => (List.range n).map (fun i => c / 8 ^ (n - 1 - i) % 8))
  | 0, _ => rfl
  | n + 1, g => by
    rw [dls, dls_map n g]
    have key : ∀ m, (List.range m).flatMap (fun q => ((List.range (8 ^ n)).map (fun c => (List.range n).map (fun i => c / 8 ^ (n - 1 - i) % 8))).map (q % 8 :: ·)) = (List.range (m * 8 ^ n)).map (fun c => (List.range (n + 1)).map (fun i => c / 8 ^ (n - i) % 8)) := by
      intro m
      induction m with
      | zero => simp
      | succ m ih =>
        rw [List.range_succ (n := m), List.flatMap_append, ih, Nat.add_mul, Nat.one_mul, List.range_add (n := m * 8 ^ n) (m := 8 ^ n), List.map_append, List.flatMap_singleton, List.map_map, List.map_map]
        congr 1
        apply List.map_congr_left
        intro c hc
        have hc := List.mem_range.mp hc
        show m % 8 :: _ = (List.range (n + 1)).map (fun i => (m * 8 ^ n + c) / 8 ^ (n - i) % 8)
        rw [List.range_succ_eq_map, List.map_cons, List.map_map]
        congr 1
        · rw [Nat.sub_zero, Nat.mul_comm, Nat.mul_add_div (Nat.pow_pos (by decide)), Nat.div_eq_of_lt hc, Nat.add_zero]
        · apply List.map_congr_left
          intro i hi
          have hi := List.mem_range.mp hi
          show c / 8 ^ (n - 1 - i) % 8 = (m * 8 ^ n + c) / 8 ^ (n - (i + 1)) % 8
          rw [show n - (i + 1) = n - 1 - i by omega]
          generalize hj : n - 1 - i = j
          have e : 8 ^ n = 8 ^ j * (8 * 8 ^ (n - j - 1)) := by rw [← Nat.pow_succ', ← Nat.pow_add]; congr 1; omega
          rw [e, show m * (8 ^ j * (8 * 8 ^ (n - j - 1))) = 8 ^ j * (8 * (m * 8 ^ (n - j - 1))) by rw [Nat.mul_left_comm, Nat.mul_left_comm m 8], Nat.mul_add_div (Nat.pow_pos (by decide)), Nat.mul_add_mod]
    have k8 := key 8
    rw [← Nat.pow_succ'] at k8
    rw [← show (List.range 8).flatMap (fun q => ((List.range (8 ^ n)).map (fun c => (List.range n).map (fun i => c / 8 ^ (n - 1 - i) % 8))).map (q % 8 :: ·)) = (List.range 8).flatMap (fun q => ((List.range (8 ^ n)).map (fun c => (List.range n).map (fun i => c / 8 ^ (n - 1 - i) % 8))).map (q :: ·)) from fl_c _ (fun q hq => by rw [Nat.mod_eq_of_lt (List.mem_range.mp hq)]), k8]
    simp only [Nat.add_sub_cancel]
end
section
/-! the reference's list of the cheapest -/
def dgs (n c : Nat) : List Nat := (List.range n).map (dg n c)
def cm_L (M : am_M) (K b n : Nat) (l : List jn) : Prop :=
  M.1 28 0 33 = nI l.length ∧ l.length ≤ K ∧ jn_srt l ∧
  ∀ i, i < l.length → M.1 56 0 i = nI (am_nth l i jn_0).1 ∧ M.1 57 0 i = nI (b + (am_nth l i jn_0).2.1) ∧ (am_nth l i jn_0).1 < 2 ^ 30 ∧ ∃ c, c < 4096 ∧ M.1 58 0 i = nI c ∧ (am_nth l i jn_0).2.2 = dgs n c
set_option maxHeartbeats 1000000 in
theorem cm_offer {X : am_X} (hX : am_Cl X) (d : Nat) (M : am_M) (K : Nat) (hK : 1 ≤ K ∧ K ≤ 4) (h41 : M.1 41 0 5 = nI K) (b n : Nat) (l : List jn) (hL : cm_L M K b n l) (c p code : Nat) (hc : c < 2 ^ 30) (hcode : code < 4096) (Q : am_P)
    (h : ∀ M', am_fr [28, 56, 57, 58] M M' → (∀ k, k ≠ 33 → M'.1 28 0 k = M.1 28 0 k) → cm_L M' K b n (jn_off K l (c, p, dgs n code)) → Q none M') : X d 100 0 [some (.inr (.inl (28, 0))), some (.inl (nI c)), some (.inl (nI (b + p))), some (.inl (nI code)), none] [] M Q := by
  obtain ⟨l1, l2, l3, l4⟩ := id hL
  refine am_go hX [3] 40 ?_
  refine (fun (z : X d 100 3 [some (.inr (.inl (28, 0))), some (.inl (nI c)), some (.inl (nI (b + p))), some (.inl (nI code)), some (.inl (M.1 28 0 33))] [] M Q) => z) ?_
  rw [l1]
  have fin : ∀ (a : Nat) (M' : am_M), a ≤ l.length → am_fr [56, 57, 58] M M' → (∀ f k, f = 56 ∨ f = 57 ∨ f = 58 → M'.1 f 0 k = if a < k ∧ k ≤ l.length ∧ k < 4 then M.1 f 0 (k - 1) else M.1 f 0 k) → (∀ i, a ≤ i → i < l.length → c < (am_nth l i jn_0).1) → (∀ i, i < a → (am_nth l i jn_0).1 ≤ c) → X d 100 48 [some (.inr (.inl (28, 0))), some (.inl (nI c)), some (.inl (nI (b + p))), some (.inl (nI code)), some (.inl (nI a))] [] M' Q := by
    intro a M' ha fr hsh hgt hle
    have r5 : M'.1 41 0 5 = nI K := (fr.2 41 0 5 (by simp)).trans h41
    refine am_go hX [] 60 ?_
    refine ⟨5, by show 5 < 6; omega, rfl, fun (q : nI a < M'.1 41 0 5) => ?_, fun (q : ¬ nI a < M'.1 41 0 5) => ?_⟩
    · rw [r5] at q
      have haK : a < K := (nI_ltI (by omega) (by omega)).mp q
      obtain ⟨hl1, he⟩ := jn_off_at (K := K) (l := l) (x := (c, p, dgs n code)) (a := a) ha hle (hgt a (Nat.le_refl a)) haK l2
      refine ⟨a, by show a < 5; omega, rfl, a, by show a < 5; omega, rfl, a, by show a < 5; omega, rfl, 5, by show 5 < 6; omega, rfl, ?_⟩
      have key : ∀ (y : Int32), y = nI (jn_off K l (c, p, dgs n code)).length → Q none (am_si (am_si (am_si (am_si M' 56 0 a (nI c)) 57 0 a (nI (b + p))) 58 0 a (nI code)) 28 0 33 y) := by
        rintro y rfl
        refine h _ (am_fr_si (am_fr_si (am_fr_si (am_fr_si (am_fr_mono fr (by simp)) (by simp)) (by simp)) (by simp)) (by simp)) (fun k hk => ?_) ⟨?_, by rw [hl1]; split <;> omega, jn_off_srt l3 ha hle (hgt a (Nat.le_refl a)) haK l2, fun i hi => ?_⟩
        · rw [am_si_at, if_neg (by omega), am_si_at, if_neg (by omega), am_si_at, if_neg (by omega), am_si_at, if_neg (by omega)]; exact fr.2 28 0 k (by simp)
        · rw [am_si_at, if_pos ⟨rfl, rfl, rfl⟩]
        · have hiK : i < K := by rw [hl1] at hi; split at hi <;> omega
          have hil : i ≤ l.length := by rw [hl1] at hi; split at hi <;> omega
          have g56 : (am_si (am_si (am_si (am_si M' 56 0 a (nI c)) 57 0 a (nI (b + p))) 58 0 a (nI code)) 28 0 33 (nI (jn_off K l (c, p, dgs n code)).length)).1 56 0 i = if i = a then nI c else M'.1 56 0 i := by simp [am_si_at]
          have g57 : (am_si (am_si (am_si (am_si M' 56 0 a (nI c)) 57 0 a (nI (b + p))) 58 0 a (nI code)) 28 0 33 (nI (jn_off K l (c, p, dgs n code)).length)).1 57 0 i = if i = a then nI (b + p) else M'.1 57 0 i := by simp [am_si_at]
          have g58 : (am_si (am_si (am_si (am_si M' 56 0 a (nI c)) 57 0 a (nI (b + p))) 58 0 a (nI code)) 28 0 33 (nI (jn_off K l (c, p, dgs n code)).length)).1 58 0 i = if i = a then nI code else M'.1 58 0 i := by simp [am_si_at]
          rw [he i hi, g56, g57, g58]
          by_cases c1 : i = a
          · subst c1
            rw [if_pos rfl, if_pos rfl, if_pos rfl, if_neg (by omega), if_pos rfl]
            exact ⟨rfl, rfl, hc, code, hcode, rfl, rfl⟩
          · rw [if_neg c1, if_neg c1, if_neg c1, hsh 56 i (by simp), hsh 57 i (by simp), hsh 58 i (by simp), if_neg c1]
            by_cases c2 : i < a
            · rw [if_pos c2, if_neg (show ¬ (a < i ∧ i ≤ l.length ∧ i < 4) by omega), if_neg (show ¬ (a < i ∧ i ≤ l.length ∧ i < 4) by omega), if_neg (show ¬ (a < i ∧ i ≤ l.length ∧ i < 4) by omega)]; exact l4 i (by omega)
            · rw [if_neg c2, if_pos (show a < i ∧ i ≤ l.length ∧ i < 4 by omega), if_pos (show a < i ∧ i ≤ l.length ∧ i < 4 by omega), if_pos (show a < i ∧ i ≤ l.length ∧ i < 4 by omega)]; exact l4 (i - 1) (by omega)
      have b33 : M'.1 28 0 33 = nI l.length := (fr.2 28 0 33 (by simp)).trans l1
      refine ⟨fun (q2 : M'.1 41 0 5 ≤ M'.1 28 0 33) => ?_, fun (q2 : ¬ M'.1 41 0 5 ≤ M'.1 28 0 33) => ?_⟩
      · rw [r5, b33] at q2
        have q2 := (nI_leI (by omega) (by omega)).mp q2
        refine key _ ?_
        show M'.1 28 0 33 = _
        rw [b33, hl1, if_neg (by omega)]; congr 1; omega
      · rw [r5, b33] at q2
        have q2 : l.length < K := by
          rcases Nat.lt_or_ge l.length K with z | z
          · exact z
          · exact absurd (nI_le z (by omega)) q2
        refine key _ ?_
        show M'.1 28 0 33 + 1 = _
        rw [b33, hl1, if_pos q2, nI_1]
    · rw [r5] at q
      have haK : K ≤ a := by
        rcases Nat.lt_or_ge a K with z | z
        · exact absurd (nI_lt z (by omega)) q
        · exact z
      have hlK : l.length = K := by omega
      refine h M' (am_fr_mono fr (by simp)) (fun k _ => fr.2 28 0 k (by simp)) ?_
      rw [jn_off_no l3 hK.1 hlK (hle (K - 1) (by omega))]
      refine ⟨(fr.2 28 0 33 (by simp)).trans l1, l2, l3, fun i hi => ?_⟩
      rw [hsh 56 i (by simp), hsh 57 i (by simp), hsh 58 i (by simp), if_neg (by omega), if_neg (by omega), if_neg (by omega)]
      exact l4 i hi
  have loop : ∀ (a : Nat) (M' : am_M), a ≤ l.length → am_fr [56, 57, 58] M M' → (∀ f k, f = 56 ∨ f = 57 ∨ f = 58 → M'.1 f 0 k = if a < k ∧ k ≤ l.length ∧ k < 4 then M.1 f 0 (k - 1) else M.1 f 0 k) → (∀ i, a ≤ i → i < l.length → c < (am_nth l i jn_0).1) → X d 100 3 [some (.inr (.inl (28, 0))), some (.inl (nI c)), some (.inl (nI (b + p))), some (.inl (nI code)), some (.inl (nI a))] [] M' Q := by
    intro a
    induction a with
    | zero =>
      intro M' ha fr hsh hgt
      refine am_go hX [3, 46, 48] 40 ?_
      refine ⟨fun _ => fin 0 M' ha fr hsh hgt (fun i hi => by omega), fun (q : ¬ nI 0 ≤ 0) => absurd (by decide) q⟩
    | succ a ih =>
      intro M' ha fr hsh hgt
      have e56 : M'.1 56 0 a = nI (am_nth l a jn_0).1 := by rw [hsh 56 a (by simp), if_neg (by omega)]; exact (l4 a (by omega)).1
      have hb := (l4 a (by omega)).2.2.1
      refine am_go hX [3, 46, 48] 60 ?_
      refine ⟨fun (q : nI (a + 1) ≤ 0) => absurd q (nI_nle (by omega) (by omega)), fun _ => ?_⟩
      refine ⟨a, by show a < 5; omega, nI_pred a, fun (q : M'.1 56 0 a ≤ nI c) => ?_, fun (q : ¬ M'.1 56 0 a ≤ nI c) => ?_⟩
      · rw [e56] at q
        have q := (nI_leI (by omega) (by omega)).mp q
        exact fin (a + 1) M' ha fr hsh hgt (fun i hi => Nat.le_trans (l3 i a (by omega) (by omega)) q)
      · rw [e56] at q
        have q : c < (am_nth l a jn_0).1 := by
          rcases Nat.lt_or_ge c (am_nth l a jn_0).1 with z | z
          · exact z
          · exact absurd (nI_le z (by omega)) q
        have hgt' : ∀ i, a ≤ i → i < l.length → c < (am_nth l i jn_0).1 := fun i h1 h2 => Nat.lt_of_lt_of_le q (l3 a i h1 h2)
        have nxt : ∀ M2 : am_M, am_fr [56, 57, 58] M M2 → (∀ f k, f = 56 ∨ f = 57 ∨ f = 58 → M2.1 f 0 k = if a < k ∧ k ≤ l.length ∧ k < 4 then M.1 f 0 (k - 1) else M.1 f 0 k) → X d 100 46 [some (.inr (.inl (28, 0))), some (.inl (nI c)), some (.inl (nI (b + p))), some (.inl (nI code)), some (.inl (nI (a + 1)))] [] M2 Q := by
          intro M2 fr2 hsh2
          refine am_go hX [3] 40 ?_
          refine (fun (z : X d 100 3 [some (.inr (.inl (28, 0))), some (.inl (nI c)), some (.inl (nI (b + p))), some (.inl (nI code)), some (.inl (nI (a + 1) + (-1)))] [] M2 Q) => z) ?_
          rw [pk_m1]
          exact ih M2 (by omega) fr2 hsh2 hgt'
        refine ⟨fun (q2 : 4 ≤ nI (a + 1)) => ?_, fun (q2 : ¬ 4 ≤ nI (a + 1)) => ?_⟩
        · have q2 := (nI_leI (a := 4) (by decide) (by omega)).mp q2
          refine nxt M' fr (fun f k hf => ?_)
          rw [hsh f k hf]
          by_cases z : a + 1 < k ∧ k ≤ l.length ∧ k < 4
          · rw [if_pos z, if_pos (by omega)]
          · rw [if_neg z, if_neg (by omega)]
        · have q2 : a + 1 < 4 := by
            rcases Nat.lt_or_ge (a + 1) 4 with z | z
            · exact z
            · exact absurd (nI_le (a := 4) z (by omega)) q2
          refine ⟨a, by show a < 5; omega, nI_pred a, a + 1, by show a + 1 < 5; omega, rfl, a, by show a < 5; omega, nI_pred a, a + 1, by show a + 1 < 5; omega, rfl, a, by show a < 5; omega, nI_pred a, a + 1, by show a + 1 < 5; omega, rfl, ?_⟩
          refine (fun (z : X d 100 46 [some (.inr (.inl (28, 0))), some (.inl (nI c)), some (.inl (nI (b + p))), some (.inl (nI code)), some (.inl (nI (a + 1)))] [] (am_si (am_si (am_si M' 56 0 (a + 1) (M'.1 56 0 a)) 57 0 (a + 1) (M'.1 57 0 a)) 58 0 (a + 1) (M'.1 58 0 a)) Q) => z) ?_
          refine nxt _ (am_fr_si (am_fr_si (am_fr_si fr (by simp)) (by simp)) (by simp)) (fun f k hf => ?_)
          have old : ∀ f, f = 56 ∨ f = 57 ∨ f = 58 → M'.1 f 0 a = M.1 f 0 a := fun f hf => by rw [hsh f a hf, if_neg (by omega)]
          rw [am_si_at, am_si_at, am_si_at, hsh f k hf, old 56 (by simp), old 57 (by simp), old 58 (by simp)]
          by_cases z : k = a + 1
          · subst z
            rw [if_pos (show a < a + 1 ∧ a + 1 ≤ l.length ∧ a + 1 < 4 by omega), Nat.add_sub_cancel]
            rcases hf with rfl | rfl | rfl
            · rw [if_neg (by omega), if_neg (by omega), if_pos ⟨rfl, rfl, rfl⟩]
            · rw [if_neg (by omega), if_pos ⟨rfl, rfl, rfl⟩]
            · rw [if_pos ⟨rfl, rfl, rfl⟩]
          · rw [if_neg (by omega), if_neg (by omega), if_neg (by omega)]
            by_cases z2 : a + 1 < k ∧ k ≤ l.length ∧ k < 4
            · rw [if_pos z2, if_pos (by omega)]
            · rw [if_neg z2, if_neg (by omega)]
  exact loop l.length M (Nat.le_refl _) (am_fr_rf _ M) (fun f k _ => by rw [if_neg (by omega)]) (fun i h1 h2 => by omega)
end
section
/-! the reference's worlds: a copy; a track that begins, that goes on -/
def rm_in (b f k : Nat) : Prop := (f = 43 ∧ k = b) ∨ (f = 44 ∧ k = b) ∨ (f = 45 ∧ 48 * b ≤ k ∧ k < 48 * b + 48) ∨ (46 ≤ f ∧ f ≤ 54 ∧ 6 * b ≤ k ∧ k < 6 * b + 6)
def rm_only (b : Nat) (M M' : am_M) : Prop := M'.2 = M.2 ∧ ∀ f i k, ¬ rm_in b f k → M'.1 f i k = M.1 f i k
theorem rm_only_rf (b : Nat) (M : am_M) : rm_only b M M := ⟨rfl, fun _ _ _ _ => rfl⟩
theorem rm_only_tr {b : Nat} {M M' M'' : am_M} (h : rm_only b M M') (h' : rm_only b M' M'') : rm_only b M M'' := ⟨h'.1.trans h.1, fun f i k q => (h'.2 f i k q).trans (h.2 f i k q)⟩
theorem rm_only_si {b f i k : Nat} {x : Int32} {M M' : am_M} (h : rm_only b M M') (hf : rm_in b f k) : rm_only b M (am_si M' f i k x) := ⟨h.1, fun f' i' k' q => by rw [am_si_at, if_neg (fun z => q (by rw [z.1, z.2.2]; exact hf))]; exact h.2 f' i' k' q⟩
theorem rm_only_fr {b : Nat} {M M' : am_M} (h : rm_only b M M') : am_fr [43, 44, 45, 46, 47, 48, 49, 50, 51, 52, 53, 54] M M' := ⟨h.1, fun f i k q => h.2 f i k (fun z => q (by unfold rm_in at z; simp; omega))⟩
/-- a track's row of cells -/
def mk_row (M M' : am_M) (t : Nat) (r : Nat → Int32) : Prop := M'.2 = M.2 ∧ (∀ f i k, ¬ (46 ≤ f ∧ f ≤ 54 ∧ i = 0 ∧ k = t) → M'.1 f i k = M.1 f i k) ∧ ∀ j, j < 9 → M'.1 (46 + j) 0 t = r j
theorem mk_row_fr {M M' : am_M} {t : Nat} {r : Nat → Int32} (h : mk_row M M' t r) : am_fr [46, 47, 48, 49, 50, 51, 52, 53, 54] M M' := ⟨h.1, fun f i k q => h.2.1 f i k (fun z => q (by simp; omega))⟩
theorem rm_only_row {b k : Nat} {M M' M'' : am_M} {r : Nat → Int32} (h : rm_only b M M') (hk : k < 6) (hr : mk_row M' M'' (6 * b + k) r) : rm_only b M M'' := ⟨hr.1.trans h.1, fun f i k' q => by rw [hr.2.1 f i k' (fun z => q (by unfold rm_in; omega))]; exact h.2 f i k' q⟩
def mk_part (M M' : am_M) (p q n : Nat) : Prop := M'.2 = M.2 ∧ (∀ f i k, ¬ (46 ≤ f ∧ f < 46 + n ∧ i = 0 ∧ k = q) → M'.1 f i k = M.1 f i k) ∧ ∀ j, j < n → M'.1 (46 + j) 0 q = M.1 (46 + j) 0 p
theorem mk_part_s {M M' : am_M} {p q n : Nat} (hpq : p ≠ q) (h : mk_part M M' p q n) : mk_part M (am_si M' (46 + n) 0 q (M'.1 (46 + n) 0 p)) p q (n + 1) := by
  refine ⟨h.1, fun f i k z => ?_, fun j hj => ?_⟩
  · rw [am_si_at, if_neg (by omega)]; exact h.2.1 f i k (by omega)
  · rw [am_si_at]
    by_cases z : j = n
    · subst z; rw [if_pos ⟨rfl, rfl, rfl⟩]; exact h.2.1 _ _ _ (by omega)
    · rw [if_neg (by omega)]; exact h.2.2 j (by omega)
set_option maxHeartbeats 1000000 in
theorem cm_copyWorld {X : am_X} (hX : am_Cl X) (d : Nat) (M : am_M) (hE : ∀ k, k < 48 → M.1 54 0 k = 0 ∨ M.1 54 0 k = 1) (a b : Nat) (ha : a < 8) (hb : b < 8) (hab : a ≠ b) (Q : am_P)
    (h : ∀ M', rm_only b M M' → M'.1 43 0 b = M.1 43 0 a → M'.1 44 0 b = M.1 44 0 a → (∀ k, k < 48 → M'.1 45 0 (48 * b + k) = M.1 45 0 (48 * a + k)) → (∀ j k, j < 9 → k < 6 → M'.1 (46 + j) 0 (6 * b + k) = M.1 (46 + j) 0 (6 * a + k)) → Q none M') : X d 101 0 [some (.inr (.inl (28, 0))), some (.inl (nI a)), some (.inl (nI b)), none, none, none] [] M Q := by
  have ix48 : ∀ b k, 48 * nI b + nI k = nI (48 * b + k) := fun b k => by rw [show (48 : Int32) = nI 48 from rfl, pk_mul, nI_add]
  have ix6 : ∀ b k, 6 * nI b + nI k = nI (6 * b + k) := fun b k => by rw [show (6 : Int32) = nI 6 from rfl, pk_mul, nI_add]
  have second : ∀ r k : Nat, k + r = 6 → ∀ M' : am_M, rm_only b M M' → M'.1 43 0 b = M.1 43 0 a → M'.1 44 0 b = M.1 44 0 a → (∀ k, k < 48 → M'.1 45 0 (48 * b + k) = M.1 45 0 (48 * a + k)) → (∀ j k', j < 9 → k' < k → M'.1 (46 + j) 0 (6 * b + k') = M.1 (46 + j) 0 (6 * a + k')) → ∀ z4 z5, X d 101 41 [some (.inr (.inl (28, 0))), some (.inl (nI a)), some (.inl (nI b)), some (.inl (nI k)), z4, z5] [] M' Q := by
    intro r
    induction r with
    | zero =>
      intro k hk M' ho h1 h2 h3 h4 z4 z5
      have hk : k = 6 := by omega
      subst hk
      refine am_go hX [41] 40 ?_
      exact ⟨fun _ => h M' ho h1 h2 h3 h4, fun (q : ¬ (6 : Int32) ≤ nI 6) => absurd (by decide) q⟩
    | succ r ih =>
      intro k hk M' ho h1 h2 h3 h4 z4 z5
      have pa : 6 * a + k < 48 := by omega
      have pb : 6 * b + k < 48 := by omega
      have hne : 6 * a + k ≠ 6 * b + k := by omega
      have src : ∀ j, j < 9 → M'.1 (46 + j) 0 (6 * a + k) = M.1 (46 + j) 0 (6 * a + k) := fun j hj => ho.2 _ _ _ (fun z => by unfold rm_in at z; omega)
      have e9 : ∀ M1 : am_M, mk_part M' M1 (6 * a + k) (6 * b + k) 9 → X d 101 128 [some (.inr (.inl (28, 0))), some (.inl (nI a)), some (.inl (nI b)), some (.inl (nI k)), some (.inl (nI (6 * a + k))), some (.inl (nI (6 * b + k)))] [] M1 Q := by
        intro M1 hp
        refine am_go hX [41] 20 ?_
        refine (fun (z : X d 101 41 [some (.inr (.inl (28, 0))), some (.inl (nI a)), some (.inl (nI b)), some (.inl (nI k + 1)), some (.inl (nI (6 * a + k))), some (.inl (nI (6 * b + k)))] [] M1 Q) => z) ?_
        have hr : mk_row M' M1 (6 * b + k) (fun j => M'.1 (46 + j) 0 (6 * a + k)) := ⟨hp.1, fun f i k' q => hp.2.1 f i k' (by omega), fun j hj => hp.2.2 j hj⟩
        rw [nI_1]
        refine ih (k + 1) (by omega) M1 (rm_only_row ho (by omega) hr) ((hr.2.1 _ _ _ (by omega)).trans h1) ((hr.2.1 _ _ _ (by omega)).trans h2) (fun k' hk' => (hr.2.1 _ _ _ (by omega)).trans (h3 k' hk')) (fun j k' hj hk' => ?_) _ _
        by_cases z : k' = k
        · subst z; rw [hr.2.2 j hj]; exact src j hj
        · rw [hr.2.1 _ _ _ (by omega)]; exact h4 j k' hj (by omega)
      have e8 : ∀ M1 : am_M, mk_part M' M1 (6 * a + k) (6 * b + k) 8 → X d 101 120 [some (.inr (.inl (28, 0))), some (.inl (nI a)), some (.inl (nI b)), some (.inl (nI k)), some (.inl (nI (6 * a + k))), some (.inl (nI (6 * b + k)))] [] M1 Q := by
        intro M1 hp
        refine am_go hX [128] 20 ?_
        refine ⟨6 * a + k, pa, rfl, 6 * b + k, pb, rfl, ?_, ?_⟩
        · show M1.1 54 0 (6 * a + k) = 0 ∨ M1.1 54 0 (6 * a + k) = 1
          rw [hp.2.1 54 0 _ (by omega), src 8 (by omega)]; exact hE _ pa
        · exact e9 (am_si M1 54 0 (6 * b + k) (M1.1 54 0 (6 * a + k))) (mk_part_s hne hp)
      have e7 : ∀ M1 : am_M, mk_part M' M1 (6 * a + k) (6 * b + k) 7 → X d 101 112 [some (.inr (.inl (28, 0))), some (.inl (nI a)), some (.inl (nI b)), some (.inl (nI k)), some (.inl (nI (6 * a + k))), some (.inl (nI (6 * b + k)))] [] M1 Q := by
        intro M1 hp
        refine am_go hX [120] 20 ?_
        refine ⟨6 * a + k, pa, rfl, 6 * b + k, pb, rfl, ?_⟩
        exact e8 (am_si M1 53 0 (6 * b + k) (M1.1 53 0 (6 * a + k))) (mk_part_s hne hp)
      have e6 : ∀ M1 : am_M, mk_part M' M1 (6 * a + k) (6 * b + k) 6 → X d 101 104 [some (.inr (.inl (28, 0))), some (.inl (nI a)), some (.inl (nI b)), some (.inl (nI k)), some (.inl (nI (6 * a + k))), some (.inl (nI (6 * b + k)))] [] M1 Q := by
        intro M1 hp
        refine am_go hX [112] 20 ?_
        refine ⟨6 * a + k, pa, rfl, 6 * b + k, pb, rfl, ?_⟩
        exact e7 (am_si M1 52 0 (6 * b + k) (M1.1 52 0 (6 * a + k))) (mk_part_s hne hp)
      have e5 : ∀ M1 : am_M, mk_part M' M1 (6 * a + k) (6 * b + k) 5 → X d 101 96 [some (.inr (.inl (28, 0))), some (.inl (nI a)), some (.inl (nI b)), some (.inl (nI k)), some (.inl (nI (6 * a + k))), some (.inl (nI (6 * b + k)))] [] M1 Q := by
        intro M1 hp
        refine am_go hX [104] 20 ?_
        refine ⟨6 * a + k, pa, rfl, 6 * b + k, pb, rfl, ?_⟩
        exact e6 (am_si M1 51 0 (6 * b + k) (M1.1 51 0 (6 * a + k))) (mk_part_s hne hp)
      have e4 : ∀ M1 : am_M, mk_part M' M1 (6 * a + k) (6 * b + k) 4 → X d 101 88 [some (.inr (.inl (28, 0))), some (.inl (nI a)), some (.inl (nI b)), some (.inl (nI k)), some (.inl (nI (6 * a + k))), some (.inl (nI (6 * b + k)))] [] M1 Q := by
        intro M1 hp
        refine am_go hX [96] 20 ?_
        refine ⟨6 * a + k, pa, rfl, 6 * b + k, pb, rfl, ?_⟩
        exact e5 (am_si M1 50 0 (6 * b + k) (M1.1 50 0 (6 * a + k))) (mk_part_s hne hp)
      have e3 : ∀ M1 : am_M, mk_part M' M1 (6 * a + k) (6 * b + k) 3 → X d 101 80 [some (.inr (.inl (28, 0))), some (.inl (nI a)), some (.inl (nI b)), some (.inl (nI k)), some (.inl (nI (6 * a + k))), some (.inl (nI (6 * b + k)))] [] M1 Q := by
        intro M1 hp
        refine am_go hX [88] 20 ?_
        refine ⟨6 * a + k, pa, rfl, 6 * b + k, pb, rfl, ?_⟩
        exact e4 (am_si M1 49 0 (6 * b + k) (M1.1 49 0 (6 * a + k))) (mk_part_s hne hp)
      have e2 : ∀ M1 : am_M, mk_part M' M1 (6 * a + k) (6 * b + k) 2 → X d 101 72 [some (.inr (.inl (28, 0))), some (.inl (nI a)), some (.inl (nI b)), some (.inl (nI k)), some (.inl (nI (6 * a + k))), some (.inl (nI (6 * b + k)))] [] M1 Q := by
        intro M1 hp
        refine am_go hX [80] 20 ?_
        refine ⟨6 * a + k, pa, rfl, 6 * b + k, pb, rfl, ?_⟩
        exact e3 (am_si M1 48 0 (6 * b + k) (M1.1 48 0 (6 * a + k))) (mk_part_s hne hp)
      have e1 : ∀ M1 : am_M, mk_part M' M1 (6 * a + k) (6 * b + k) 1 → X d 101 64 [some (.inr (.inl (28, 0))), some (.inl (nI a)), some (.inl (nI b)), some (.inl (nI k)), some (.inl (nI (6 * a + k))), some (.inl (nI (6 * b + k)))] [] M1 Q := by
        intro M1 hp
        refine am_go hX [72] 20 ?_
        refine ⟨6 * a + k, pa, rfl, 6 * b + k, pb, rfl, ?_⟩
        exact e2 (am_si M1 47 0 (6 * b + k) (M1.1 47 0 (6 * a + k))) (mk_part_s hne hp)
      have e0 : ∀ M1 : am_M, mk_part M' M1 (6 * a + k) (6 * b + k) 0 → X d 101 56 [some (.inr (.inl (28, 0))), some (.inl (nI a)), some (.inl (nI b)), some (.inl (nI k)), some (.inl (nI (6 * a + k))), some (.inl (nI (6 * b + k)))] [] M1 Q := by
        intro M1 hp
        refine am_go hX [64] 20 ?_
        refine ⟨6 * a + k, pa, rfl, 6 * b + k, pb, rfl, ?_⟩
        exact e1 (am_si M1 46 0 (6 * b + k) (M1.1 46 0 (6 * a + k))) (mk_part_s hne hp)
      refine am_go hX [41, 56] 40 ?_
      refine ⟨fun (q : (6 : Int32) ≤ nI k) => absurd q (nI_ge (b := 6) (by omega) (by decide)), fun _ => ?_⟩
      refine (fun (z : X d 101 56 [some (.inr (.inl (28, 0))), some (.inl (nI a)), some (.inl (nI b)), some (.inl (nI k)), some (.inl (6 * nI a + nI k)), some (.inl (6 * nI b + nI k))] [] M' Q) => z) ?_
      rw [ix6, ix6]
      exact e0 M' ⟨rfl, fun _ _ _ _ => rfl, fun j hj => by omega⟩
  have first : ∀ r k : Nat, k + r = 48 → ∀ M' : am_M, rm_only b M M' → M'.1 43 0 b = M.1 43 0 a → M'.1 44 0 b = M.1 44 0 a → (∀ k', k' < k → M'.1 45 0 (48 * b + k') = M.1 45 0 (48 * a + k')) → X d 101 18 [some (.inr (.inl (28, 0))), some (.inl (nI a)), some (.inl (nI b)), some (.inl (nI k)), none, none] [] M' Q := by
    intro r
    induction r with
    | zero =>
      intro k hk M' ho h1 h2 h3
      have hk : k = 48 := by omega
      subst hk
      refine am_go hX [18, 41] 40 ?_
      exact ⟨fun _ => second 6 0 (by omega) M' ho h1 h2 h3 (fun j k' _ hk' => by omega) _ _, fun (q : ¬ (48 : Int32) ≤ nI 48) => absurd (by decide) q⟩
    | succ r ih =>
      intro k hk M' ho h1 h2 h3
      refine am_go hX [18] 40 ?_
      refine ⟨fun (q : (48 : Int32) ≤ nI k) => absurd q (nI_ge (b := 48) (by omega) (by decide)), fun _ => ?_⟩
      refine ⟨48 * a + k, by show 48 * a + k < 384; omega, ix48 a k, 48 * b + k, by show 48 * b + k < 384; omega, ix48 b k, ?_⟩
      refine (fun (z : X d 101 18 [some (.inr (.inl (28, 0))), some (.inl (nI a)), some (.inl (nI b)), some (.inl (nI k + 1)), none, none] [] (am_si M' 45 0 (48 * b + k) (M'.1 45 0 (48 * a + k))) Q) => z) ?_
      rw [nI_1]
      refine ih (k + 1) (by omega) _ (rm_only_si ho (by unfold rm_in; omega)) (by rw [am_si_at, if_neg (by omega)]; exact h1) (by rw [am_si_at, if_neg (by omega)]; exact h2) (fun k' hk' => ?_)
      rw [am_si_at]
      by_cases z : k' = k
      · subst z; rw [if_pos ⟨rfl, rfl, rfl⟩]; exact ho.2 _ _ _ (fun z => by unfold rm_in at z; omega)
      · rw [if_neg (by omega)]; exact h3 k' (by omega)
  refine am_go hX [18] 40 ?_
  refine ⟨a, ha, rfl, b, hb, rfl, a, ha, rfl, b, hb, rfl, ?_⟩
  refine (fun (z : X d 101 18 [some (.inr (.inl (28, 0))), some (.inl (nI a)), some (.inl (nI b)), some (.inl (nI 0)), none, none] [] (am_si (am_si M 43 0 b (M.1 43 0 a)) 44 0 b (M.1 44 0 a)) Q) => z) ?_
  refine first 48 0 (by omega) _ (rm_only_si (rm_only_si (rm_only_rf b M) (by unfold rm_in; omega)) (by unfold rm_in; omega)) ?_ ?_ (fun k' hk' => by omega)
  · simp [am_si_at]
  · simp [am_si_at]
theorem cm_cut {X : am_X} (hX : am_Cl X) (d : Nat) (M : am_M) (x y : Int32) (b : Int) (hb : b < 2147483647) (h1 : -b ≤ x.toInt) (h2 : x.toInt ≤ b) (hy : 0 < y.toInt) (Q : am_P) (h : Q (some (.inl (lb_fd x y))) M) : X d 102 0 [some (.inr (.inl (28, 0))), some (.inl (x)), some (.inl (y)), none] [] M Q := by
  have e := (lb_fd_bd hb h1 h2 hy).2.2
  rw [e] at h
  refine am_go hX [] 40 ?_
  refine ⟨fun z => ?_, fun (q : x / y * y ≤ x) => ?_, fun (q : ¬ x / y * y ≤ x) => ?_⟩
  · rw [z] at hy; simp at hy
  · rw [if_neg (Int32.not_lt.mpr q)] at h; exact h
  · rw [if_pos (Int32.not_le.mp q)] at h; exact h
set_option maxHeartbeats 1000000 in
theorem cm_begin {X : am_X} (hX : am_Cl X) (d : Nat) (M : am_M) (hd : 1 ≤ d) (τ : ta) (hτ : ta_ok τ) (hT : rm_T M τ) (s e : Nat) (hs : s < ta_n τ) (he : e < ta_dn τ s) (t : Nat) (ht : t < 48) (Q : am_P) (h : ∀ M', mk_row M M' t (tk_new τ s e) → Q none M') : X d 103 0 [some (.inr (.inl (28, 0))), some (.inl (nI t)), some (.inl (nI s)), some (.inl (nI e))] [] M Q := by
  obtain ⟨h1, h2, h3, h4, h5⟩ := id hT
  obtain ⟨a1, a2, a3, a4⟩ := h3 s hs
  obtain ⟨b1, b2, b3, -⟩ := hτ.2.2.1 s hs
  have hn := hτ.1
  have ix : 4 * nI s + nI e = nI (4 * s + e) := by rw [show (4 : Int32) = nI 4 from rfl, pk_mul, nI_add]
  have hT1 : rm_T (am_si M 46 0 t (ta_rx τ s e)) τ := rm_T_fr hT (am_fg_of (am_fr_si (am_fr_rf [46] M) (by simp)) []) (by simp)
  refine am_go hX [] 90 ?_
  refine am_cc hd (cm_rightX hX _ _ τ hτ hT s e hs he _ ?_)
  refine ⟨t, ht, rfl, am_cc hd (cm_rightY hX _ _ τ hτ hT1 s e hs he _ ?_)⟩
  refine ⟨t, ht, rfl, t, ht, rfl, t, ht, rfl, s, by show s < 12; omega, rfl, t, ht, rfl, t, ht, rfl, t, ht, rfl, 4 * s + e, by show 4 * s + e < 48; omega, ix, t, ht, rfl, t, ht, rfl, Or.inl rfl, ?_⟩
  refine (fun (z : Q none (am_si (am_si (am_si (am_si (am_si (am_si (am_si (am_si (am_si M 46 0 t (ta_rx τ s e)) 47 0 t (ta_ry τ s e)) 48 0 t 0) 49 0 t 0) 50 0 t (M.1 32 0 s)) 51 0 t 1) 52 0 t 0) 53 0 t (M.1 36 0 (4 * s + e))) 54 0 t 0)) => z) ?_
  rw [a2, (a4 e he).2.2]
  refine h _ ⟨rfl, fun f i k' q => ?_, fun j hj => ?_⟩
  · simp only [am_si_at]
    rw [if_neg (by omega), if_neg (by omega), if_neg (by omega), if_neg (by omega), if_neg (by omega), if_neg (by omega), if_neg (by omega), if_neg (by omega), if_neg (by omega)]
  · match j, hj with
    | 0, _ => simp [am_si_at, tk_new]
    | 1, _ => simp [am_si_at, tk_new]
    | 2, _ => simp [am_si_at, tk_new]
    | 3, _ => simp [am_si_at, tk_new]
    | 4, _ => simp [am_si_at, tk_new]
    | 5, _ => simp [am_si_at, tk_new]
    | 6, _ => simp [am_si_at, tk_new]
    | 7, _ => simp [am_si_at, tk_new]
    | 8, _ => simp [am_si_at, tk_new]
set_option maxHeartbeats 1000000 in
theorem cm_goOn {X : am_X} (hX : am_Cl X) (d : Nat) (M : am_M) (hd : 1 ≤ d) (τ : ta) (hτ : ta_ok τ) (hT : rm_T M τ) (s e : Nat) (hs : s < ta_n τ) (he : e < ta_dn τ s) (t : Nat) (ht : t < 48) (r : Nat → Int32) (hr : ∀ j, j < 9 → M.1 (46 + j) 0 t = r j) (hok : tk_ok r) (Q : am_P) (h : ∀ M', mk_row M M' t (tk_hit τ r s e) → Q none M') : X d 104 0 [some (.inr (.inl (28, 0))), some (.inl (nI t)), some (.inl (nI s)), some (.inl (nI e)), none] [] M Q := by
  obtain ⟨h1, h2, h3, h4, h5⟩ := id hT
  obtain ⟨a1, a2, a3, a4⟩ := h3 s hs
  obtain ⟨b1, b2, b3, -⟩ := hτ.2.2.1 s hs
  have hn := hτ.1
  obtain ⟨bx, by_⟩ := ta_rx_bd hτ hs he
  obtain ⟨t0, t1, t2, t3, t4, t7, t8⟩ := id hok
  have hmo : (nI (ta_mo τ s)).toInt = (ta_mo τ s : Int) := nI_toInt (by omega)
  have ix : 4 * nI s + nI e = nI (4 * s + e) := by rw [show (4 : Int32) = nI 4 from rfl, pk_mul, nI_add]
  have r0 : M.1 46 0 t = r 0 := hr 0 (by omega)
  have r1 : M.1 47 0 t = r 1 := hr 1 (by omega)
  have r2 : M.1 48 0 t = r 2 := hr 2 (by omega)
  have r3 : M.1 49 0 t = r 3 := hr 3 (by omega)
  have r4 : M.1 50 0 t = r 4 := hr 4 (by omega)
  have r5 : M.1 51 0 t = r 5 := hr 5 (by omega)
  have r7 : M.1 53 0 t = r 7 := hr 7 (by omega)
  have r8 : M.1 54 0 t = r 8 := hr 8 (by omega)
  have rest : ∀ (u v z4 : Int32) (M1 : am_M), M1.2 = M.2 → (∀ f i k, ¬ ((f = 48 ∨ f = 49) ∧ i = 0 ∧ k = t) → M1.1 f i k = M.1 f i k) → M1.1 48 0 t = tk_hit τ r s e 2 → M1.1 49 0 t = tk_hit τ r s e 3 → X d 104 44 [some (.inr (.inl (28, 0))), some (.inl (nI t)), some (.inl (nI s)), some (.inl (nI e)), some (.inl (z4))] [] M1 Q := by
    intro u v z4 M1 hM12 hM1 hu hv
    have fr1 : am_fr [48, 49] M M1 := ⟨hM12, fun f i k q => hM1 f i k (fun z => q (by simp; omega))⟩
    have hT1 : rm_T M1 τ := rm_T_fr hT (am_fg_of fr1 []) (by simp)
    have hT2 : rm_T (am_si M1 46 0 t (ta_rx τ s e)) τ := rm_T_fr hT1 (am_fg_of (am_fr_si (am_fr_rf [46] M1) (by simp)) []) (by simp)
    refine am_go hX [102] 90 ?_
    refine am_cc hd (cm_rightX hX _ _ τ hτ hT1 s e hs he _ ?_)
    refine ⟨t, ht, rfl, am_cc hd (cm_rightY hX _ _ τ hτ hT2 s e hs he _ ?_)⟩
    refine ⟨t, ht, rfl, s, by show s < 12; omega, rfl, t, ht, rfl, t, ht, rfl, t, ht, rfl, t, ht, rfl, t, ht, rfl, ?_⟩
    have e32 : M1.1 32 0 s = nI (ta_mo τ s) := (hM1 _ _ _ (by omega)).trans a2
    have e36 : M1.1 36 0 (4 * s + e) = nI (ta_dm τ s e) := (hM1 _ _ _ (by omega)).trans (a4 e he).2.2
    have e51 : M1.1 51 0 t = r 5 := (hM1 _ _ _ (by omega)).trans r5
    have e53 : M1.1 53 0 t = r 7 := (hM1 _ _ _ (by omega)).trans r7
    have e54 : M1.1 54 0 t = r 8 := (hM1 _ _ _ (by omega)).trans r8
    have key : ∀ y : Int32, y = tk_hit τ r s e 7 → X d 104 102 [some (.inr (.inl (28, 0))), some (.inl (nI t)), some (.inl (nI s)), some (.inl (nI e)), some (.inl (z4))] [.inl y, .inl (nI t), .inr (.inl (53, 0))] (am_si (am_si (am_si (am_si (am_si M1 46 0 t (ta_rx τ s e)) 47 0 t (ta_ry τ s e)) 50 0 t (M1.1 32 0 s)) 51 0 t (M1.1 51 0 t + 1)) 52 0 t 0) Q := by
      rintro y rfl
      refine am_go hX [] 20 ?_
      refine ⟨t, ht, rfl, ?_⟩
      refine (fun (z : Q none (am_si (am_si (am_si (am_si (am_si (am_si M1 46 0 t (ta_rx τ s e)) 47 0 t (ta_ry τ s e)) 50 0 t (M1.1 32 0 s)) 51 0 t (M1.1 51 0 t + 1)) 52 0 t 0) 53 0 t (tk_hit τ r s e 7))) => z) ?_
      rw [e32, e51]
      refine h _ ⟨hM12, fun f i k' q => ?_, fun j hj => ?_⟩
      · simp only [am_si_at]
        rw [if_neg (by omega), if_neg (by omega), if_neg (by omega), if_neg (by omega), if_neg (by omega), if_neg (by omega)]
        exact hM1 f i k' (by omega)
      · match j, hj with
        | 0, _ => simp [am_si_at, tk_hit]
        | 1, _ => simp [am_si_at, tk_hit]
        | 2, _ => refine Eq.trans ?_ hu; simp [am_si_at]
        | 3, _ => refine Eq.trans ?_ hv; simp [am_si_at]
        | 4, _ => simp [am_si_at, tk_hit]
        | 5, _ => simp [am_si_at, tk_hit]
        | 6, _ => simp [am_si_at, tk_hit]
        | 7, _ => simp [am_si_at]
        | 8, _ => refine Eq.trans ?_ e54; simp [am_si_at]
    refine ⟨fun (q : ¬ M1.1 53 0 t = 0) => ?_, fun (q : ¬ ¬ M1.1 53 0 t = 0) => ?_⟩
    · refine ⟨t, ht, rfl, ?_⟩
      refine key (M1.1 53 0 t) ?_
      rw [e53] at q ⊢
      show r 7 = if r 7 = 0 then _ else r 7
      rw [if_neg q]
    · have q := Classical.not_not.mp q
      refine ⟨4 * s + e, by show 4 * s + e < 48; omega, ix, ?_⟩
      refine key (M1.1 36 0 (4 * s + e)) ?_
      rw [e53] at q
      rw [e36]
      show _ = if r 7 = 0 then _ else r 7
      rw [if_pos q]
  refine am_go hX [44] 90 ?_
  refine ⟨s, by show s < 12; omega, rfl, t, ht, rfl, fun (q : M.1 32 0 s - M.1 50 0 t ≤ 0) => ?_, fun (q : ¬ M.1 32 0 s - M.1 50 0 t ≤ 0) => ?_⟩
  · rw [a2, r4] at q
    refine rest 0 0 (M.1 32 0 s - M.1 50 0 t) M rfl (fun _ _ _ _ => rfl) ?_ ?_
    · rw [r2]
      show _ = if 0 < nI (ta_mo τ s) - r 4 then _ else r 2
      rw [if_neg (Int32.not_lt.mpr q)]
    · rw [r3]
      show _ = if 0 < nI (ta_mo τ s) - r 4 then _ else r 3
      rw [if_neg (Int32.not_lt.mpr q)]
  · have q' := q
    rw [a2, r4] at q'
    have q' := Int32.not_le.mp q'
    have qi := q'
    rw [Int32.lt_iff_toInt_lt, Int32.toInt_zero] at qi
    unfold ta_in at *
    have ex : (ta_rx τ s e - r 0).toInt = (ta_rx τ s e).toInt - (r 0).toInt := iz_sub (by omega) (by omega)
    have ey : (ta_ry τ s e - r 1).toInt = (ta_ry τ s e).toInt - (r 1).toInt := iz_sub (by omega) (by omega)
    refine am_cc hd (cm_rightX hX _ _ τ hτ hT s e hs he _ ?_)
    refine ⟨t, ht, rfl, am_cc hd ?_⟩
    refine (fun (z : X (d - 1) 102 0 [some (.inr (.inl (28, 0))), some (.inl (ta_rx τ s e - M.1 46 0 t)), some (.inl (M.1 32 0 s - M.1 50 0 t)), none] [] M _) => z) ?_
    rw [r0, a2, r4]
    refine cm_cut hX _ _ _ _ 2100 (by omega) (by rw [ex]; omega) (by rw [ex]; omega) qi _ ?_
    have hT1 : rm_T (am_si M 48 0 t (lb_fd (ta_rx τ s e - r 0) (nI (ta_mo τ s) - r 4))) τ := rm_T_fr hT (am_fg_of (am_fr_si (am_fr_rf [48] M) (by simp)) []) (by simp)
    refine ⟨t, ht, rfl, am_cc hd (cm_rightY hX _ _ τ hτ hT1 s e hs he _ ?_)⟩
    refine ⟨t, ht, rfl, am_cc hd ?_⟩
    refine (fun (z : X (d - 1) 102 0 [some (.inr (.inl (28, 0))), some (.inl (ta_ry τ s e - M.1 47 0 t)), some (.inl (M.1 32 0 s - M.1 50 0 t)), none] [] (am_si M 48 0 t (lb_fd (ta_rx τ s e - r 0) (nI (ta_mo τ s) - r 4))) _) => z) ?_
    rw [r1, a2, r4]
    refine cm_cut hX _ _ _ _ 2100 (by omega) (by rw [ey]; omega) (by rw [ey]; omega) qi _ ?_
    refine ⟨t, ht, rfl, ?_⟩
    refine rest 0 0 (M.1 32 0 s - M.1 50 0 t) (am_si (am_si M 48 0 t (lb_fd (ta_rx τ s e - r 0) (nI (ta_mo τ s) - r 4))) 49 0 t (lb_fd (ta_ry τ s e - r 1) (nI (ta_mo τ s) - r 4))) rfl (fun f i k z => ?_) ?_ ?_
    · rw [am_si_at, if_neg (by omega), am_si_at, if_neg (by omega)]
    · rw [am_si_at, if_neg (by omega), am_si_at, if_pos ⟨rfl, rfl, rfl⟩]
      show _ = if 0 < nI (ta_mo τ s) - r 4 then _ else r 2
      rw [if_pos q']
    · rw [am_si_at, if_pos ⟨rfl, rfl, rfl⟩]
      show _ = if 0 < nI (ta_mo τ s) - r 4 then _ else r 3
      rw [if_pos q']
end
section
/-! the reference carries a join out -/
theorem am_nth_rg (f : Nat → Nat) (n i x : Nat) (h : i < n) : am_nth ((List.range n).map f) i x = f i := by
  have key : ∀ (l : List Nat) (i : Nat), i < l.length → am_nth (l.map f) i x = f (am_nth l i 0) := by
    intro l
    induction l with
    | nil => intro i h; simp at h
    | cons a l ih => intro i h; cases i with
      | zero => rfl
      | succ i => exact ih i (by simpa using h)
  have k2 : ∀ (n i : Nat), i < n → am_nth (List.range n) i 0 = i := by
    intro n
    induction n with
    | zero => intro i h; omega
    | succ n ih =>
      intro i h
      rw [List.range_succ, am_nth_app, List.length_range]
      by_cases z : i < n
      · rw [if_pos z]; exact ih i z
      · rw [if_neg z]
        have : i = n := by omega
        subst this; rw [Nat.sub_self]; rfl
  rw [key _ i (by simpa using h), k2 n i h]
theorem dgs_at {n c e : Nat} (h : e < n) : am_nth (dgs n c) e 9 = dg n c e := am_nth_rg (dg n c) n e 9 h
theorem dgs_len (n c : Nat) : (dgs n c).length = n := by unfold dgs; simp
theorem jp_f_s (ps : List Nat) (k : Nat) : ∀ (r x : Nat), jp_f ps k (r + 1) x = match jp_f ps k r x with
    | some d => some d
    | none => if am_nth ps (x + r) 9 = k then some (x + r) else none
  | 0, x => by simp [jp_f]
  | r + 1, x => by
    rw [jp_f]
    by_cases z : am_nth ps x 9 = k
    · rw [if_pos z, jp_f, if_pos z]
    · rw [if_neg z, jp_f_s ps k r (x + 1), jp_f, if_neg z, show x + 1 + r = x + (r + 1) by omega]
theorem jp_f_no {ps : List Nat} {n e : Nat} (hdi : jp_di n ps) (he : e < n) (h6 : am_nth ps e 9 < 6) : jp_f ps (am_nth ps e 9) e 0 = none := by
  cases h : jp_f ps (am_nth ps e 9) e 0 with
  | none => rfl
  | some x =>
    have := jp_f_lt h
    have := hdi x e (by omega) he this.2.2
    omega
def mA (M M' : am_M) (τ : ta) (s : Nat) (w : wd) (ps : List Nat) (p : Nat) (P : Nat → Prop) (e : Nat) : Prop :=
  rm_only p M M' ∧ M'.1 44 0 p = nI (wd_n w + jp_nb ps e) ∧ M'.1 43 0 p = M.1 43 0 p ∧
  (∀ k, k < wd_n w → ∀ j, j < 9 → M'.1 (46 + j) 0 (6 * p + k) = (match jp_f ps k e 0 with
    | some x => tk_hit τ (wd_t w k) s x
    | none => wd_t w k) j) ∧
  (∀ i, i < jp_nb ps e → ∀ j, j < 9 → M'.1 (46 + j) 0 (6 * p + (wd_n w + i)) = tk_new τ s (jp_dot ps i) j) ∧
  (∀ s' e', P s' → s' ≠ s → e' < ta_dn τ s' → M'.1 45 0 (48 * p + (4 * s' + e')) = wd_a w s' e') ∧
  (∀ e', e' < e → M'.1 45 0 (48 * p + (4 * s + e')) = jp_ac (wd_n w) ps e') ∧
  ∀ k, k < 48 → M'.1 54 0 k = 0 ∨ M'.1 54 0 k = 1
set_option maxHeartbeats 2000000 in
theorem cm_apply {X : am_X} (hX : am_Cl X) (d : Nat) (M : am_M) (hd : 2 ≤ d) (τ : ta) (hτ : ta_ok τ) (hT : rm_T M τ) (hE : ∀ k, k < 48 → M.1 54 0 k = 0 ∨ M.1 54 0 k = 1) (s p : Nat) (hs : s < ta_n τ) (hp : p < 8) (P : Nat → Prop) (hP : ∀ s, P s → s < ta_n τ) (w : wd) (m0 : Nat) (hw : wd_ok m0 w) (c code : Nat) (hcode : code < 4096) (h43 : M.1 43 0 p = nI c) (h44 : M.1 44 0 p = nI (wd_n w)) (hrows : ∀ k, k < wd_n w → ∀ j, j < 9 → M.1 (46 + j) 0 (6 * p + k) = wd_t w k j) (hacc : ∀ s' e', P s' → e' < ta_dn τ s' → M.1 45 0 (48 * p + (4 * s' + e')) = wd_a w s' e')
    (ps : List Nat) (hps : ps = dgs (ta_dn τ s) code) (hok : jp_ok (wd_n w) (ta_dn τ s) ps) (hdi : jp_di (ta_dn τ s) ps) (Q : am_P)
    (h : ∀ M', rm_only p M M' → rm_W M' τ (fun s' => s' = s ∨ P s') p (wd_ap τ s w c ps) → (∀ k, k < 48 → M'.1 54 0 k = 0 ∨ M'.1 54 0 k = 1) → Q none M') : X d 105 0 [some (.inr (.inl (28, 0))), some (.inl (nI p)), some (.inl (nI s)), some (.inl (nI code)), none, none, none, none, none, none] [] M Q := by
  obtain ⟨t1, t2, t3, t4, t5⟩ := id hT
  obtain ⟨a1, a2, a3, a4⟩ := t3 s hs
  obtain ⟨b1, b2, b3, b4⟩ := hτ.2.2.1 s hs
  obtain ⟨o1, o2, o3⟩ := hw
  obtain ⟨k1, k2, k3, -⟩ := hok
  have hn := hτ.1
  have hb9 : ta_ru τ 4 ≤ 9 := hτ.2.2.2.2.2.2.2.2.1.2
  generalize hnn : ta_dn τ s = n at *
  generalize hnT : wd_n w = nT at *
  have ix6 : ∀ k, 6 * nI p + nI k = nI (6 * p + k) := fun k => by rw [show (6 : Int32) = nI 6 from rfl, pk_mul, nI_add]
  -- second loop: those that get none
  have tail : ∀ (m : Nat), m < 64 → (∀ k, k < 6 → m.testBit k = (jp_f ps k n 0).isSome) → ∀ r k : Nat, k + r = nT → ∀ M' : am_M, rm_only p M M' → M'.1 44 0 p = nI (nT + jp_nb ps n) → M'.1 43 0 p = M.1 43 0 p →
      (∀ k', k ≤ k' → k' < nT → ∀ j, j < 9 → M'.1 (46 + j) 0 (6 * p + k') = (match jp_f ps k' n 0 with
        | some x => tk_hit τ (wd_t w k') s x
        | none => wd_t w k') j) → (∀ k', k' < k → ∀ j, j < 9 → M'.1 (46 + j) 0 (6 * p + k') = wd_t (wd_ap τ s w c ps) k' j) →
      (∀ i, i < jp_nb ps n → ∀ j, j < 9 → M'.1 (46 + j) 0 (6 * p + (nT + i)) = tk_new τ s (jp_dot ps i) j) →
      (∀ s' e', P s' → s' ≠ s → e' < ta_dn τ s' → M'.1 45 0 (48 * p + (4 * s' + e')) = wd_a w s' e') → (∀ e', e' < n → M'.1 45 0 (48 * p + (4 * s + e')) = jp_ac nT ps e') → (∀ k, k < 48 → M'.1 54 0 k = 0 ∨ M'.1 54 0 k = 1) →
      ∀ z8 z9, X d 105 97 [some (.inr (.inl (28, 0))), some (.inl (nI p)), some (.inl (nI s)), some (.inl (nI code)), some (.inl (nI n)), some (.inl (nI nT)), some (.inl (nI m)), some (.inl (nI k)), z8, z9] [] M' Q := by
    intro m hm hbits r
    have hap_lt : ∀ k, k < nT → wd_t (wd_ap τ s w c ps) k = match jp_f ps k n 0 with
        | some x => tk_hit τ (wd_t w k) s x
        | none => tk_miss τ (wd_t w k) := by
      intro k hk
      show (if k < wd_n w then (match jp_at ps k with
        | some d => tk_hit τ (wd_t w k) s d
        | none => tk_miss τ (wd_t w k)) else _) = _
      rw [if_pos (by omega)]
      unfold jp_at
      rw [k1]
    induction r with
    | zero =>
      intro k hk M' ho h1 h2 hrest hdone hnew hac1 hac2 hE' z8 z9
      have hk : k = nT := by omega
      subst hk
      refine am_go hX [97] 40 ?_
      refine ⟨fun _ => h M' ho ⟨h2.trans h43, ?_, fun k' hk' j hj => ?_, fun s' e' hs' he' => ?_⟩ hE', fun (q : ¬ nI k ≤ nI k) => absurd (nI_le (Nat.le_refl _) (by omega)) q⟩
      · rw [h1]
        show _ = nI (wd_n w + jp_nb ps ps.length)
        rw [hnT, k1]
      · have hk' : k' < wd_n w + jp_nb ps ps.length := hk'
        rw [hnT, k1] at hk'
        by_cases z : k' < k
        · exact hdone k' z j hj
        · have e := hnew (k' - k) (by omega) j hj
          rw [show k + (k' - k) = k' by omega] at e
          rw [e]
          show _ = (if k' < wd_n w then _ else tk_new τ s (jp_dot ps (k' - wd_n w))) j
          rw [if_neg (by omega), hnT]
      · show _ = (if s' = s then jp_ac (wd_n w) ps e' else wd_a w s' e')
        by_cases z : s' = s
        · subst z; rw [if_pos rfl, hnT]; exact hac2 e' (by omega)
        · rw [if_neg z]; exact hac1 s' e' (hs'.resolve_left z) z he'
    | succ r ih =>
      intro k hk M' ho h1 h2 hrest hdone hnew hac1 hac2 hE' z8 z9
      have hkn : k < nT := by omega
      have pk : 6 * p + k < 48 := by omega
      have hro := hrest k (Nat.le_refl k) hkn
      -- on, with what this track's cells hold
      have nxt : ∀ (M2 : am_M) (rr : Nat → Int32), mk_row M' M2 (6 * p + k) rr → (∀ j, j < 9 → rr j = wd_t (wd_ap τ s w c ps) k j) → (rr 8 = 0 ∨ rr 8 = 1) → X d 105 143 [some (.inr (.inl (28, 0))), some (.inl (nI p)), some (.inl (nI s)), some (.inl (nI code)), some (.inl (nI n)), some (.inl (nI nT)), some (.inl (nI m)), some (.inl (nI k)), some (.inl (nI (6 * p + k))), z9] [] M2 Q := by
        intro M2 rr hr hrr h8
        refine am_go hX [97] 40 ?_
        refine (fun (z : X d 105 97 [some (.inr (.inl (28, 0))), some (.inl (nI p)), some (.inl (nI s)), some (.inl (nI code)), some (.inl (nI n)), some (.inl (nI nT)), some (.inl (nI m)), some (.inl (nI k + 1)), some (.inl (nI (6 * p + k))), z9] [] M2 Q) => z) ?_
        rw [nI_1]
        refine ih (k + 1) (by omega) M2 (rm_only_row ho (by omega) hr) ((hr.2.1 _ _ _ (by omega)).trans h1) ((hr.2.1 _ _ _ (by omega)).trans h2) (fun k' q1 q2 j hj => ?_) (fun k' q1 j hj => ?_) (fun i hi j hj => ?_) (fun s' e' q1 q2 q3 => (hr.2.1 _ _ _ (by omega)).trans (hac1 s' e' q1 q2 q3)) (fun e' q => (hr.2.1 _ _ _ (by omega)).trans (hac2 e' q)) (fun k' q => ?_) _ _
        · rw [hr.2.1 _ _ _ (by omega)]; exact hrest k' (by omega) q2 j hj
        · by_cases z : k' = k
          · subst z; rw [hr.2.2 j hj]; exact hrr j hj
          · rw [hr.2.1 _ _ _ (by omega)]; exact hdone k' (by omega) j hj
        · rw [hr.2.1 _ _ _ (by omega)]; exact hnew i hi j hj
        · by_cases z : k' = 6 * p + k
          · subst z; rw [hr.2.2 8 (by omega)]; exact h8
          · rw [hr.2.1 _ _ _ (by omega)]; exact hE' k' q
      have same : mk_row M' M' (6 * p + k) (fun j => M'.1 (46 + j) 0 (6 * p + k)) := ⟨rfl, fun _ _ _ _ => rfl, fun _ _ => rfl⟩
      have hbit := mk_bit m hm k (by omega)
      have hbk := hbits k (by omega)
      have hok8 : M'.1 54 0 (6 * p + k) = wd_t w k 8 := by
        have := hro 8 (by omega)
        rw [show (46 + 8 : Nat) = 54 from rfl] at this
        rw [this]
        cases jp_f ps k n 0 with
        | none => rfl
        | some x => rfl
      refine am_go hX [97, 119, 143] 60 ?_
      refine ⟨fun (q : nI nT ≤ nI k) => absurd q (nI_ge hkn (by omega)), fun _ => ?_⟩
      refine ⟨6 * p + k, pk, ix6 k, fun (q : ¬ M'.1 54 0 (6 * p + k) = 0) => ?_, fun (q : ¬ ¬ M'.1 54 0 (6 * p + k) = 0) => ?_⟩
      · refine (fun (z : X d 105 143 [some (.inr (.inl (28, 0))), some (.inl (nI p)), some (.inl (nI s)), some (.inl (nI code)), some (.inl (nI n)), some (.inl (nI nT)), some (.inl (nI m)), some (.inl (nI k)), some (.inl (6 * nI p + nI k)), z9] [] M' Q) => z) ?_
        rw [ix6]
        rw [hok8] at q
        refine nxt M' _ same (fun j hj => ?_) (hE' _ pk)
        show M'.1 (46 + j) 0 (6 * p + k) = _
        rw [hro j hj, hap_lt k hkn]
        cases jp_f ps k n 0 with
        | some x => rfl
        | none =>
          show wd_t w k j = tk_miss τ (wd_t w k) j
          unfold tk_miss
          rw [if_neg q]
      · have q := Classical.not_not.mp q
        refine ⟨fun (q2 : ¬ (nI m >>> (nI k &&& 31)) &&& 1 = 1) => ?_, fun (q2 : ¬ ¬ (nI m >>> (nI k &&& 31)) &&& 1 = 1) => ?_⟩
        · rw [hbit] at q2
          have q2 : m.testBit k = false := by
            cases z : m.testBit k with
            | false => rfl
            | true => rw [z] at q2; exact absurd rfl q2
          rw [q2] at hbk
          have hno : jp_f ps k n 0 = none := by
            cases z : jp_f ps k n 0 with
            | none => rfl
            | some x => rw [z] at hbk; cases hbk
          rw [hok8] at q
          have hro' : ∀ j, j < 9 → M'.1 (46 + j) 0 (6 * p + k) = wd_t w k j := fun j hj => by rw [hro j hj, hno]
          refine (fun (z : X d 105 119 [some (.inr (.inl (28, 0))), some (.inl (nI p)), some (.inl (nI s)), some (.inl (nI code)), some (.inl (nI n)), some (.inl (nI nT)), some (.inl (nI m)), some (.inl (nI k)), some (.inl (6 * nI p + nI k)), z9] [] M' Q) => z) ?_
          rw [ix6]
          have e52 : M'.1 52 0 (6 * p + k) = wd_t w k 6 := hro' 6 (by omega)
          have e41 : M'.1 41 0 4 = nI (ta_ru τ 4) := (ho.2 41 0 4 (fun z => by unfold rm_in at z; omega)).trans (t5 4 (by omega))
          refine am_go hX [143] 60 ?_
          refine ⟨6 * p + k, pk, rfl, 6 * p + k, pk, rfl, 6 * p + k, pk, rfl, 4, by show 4 < 6; omega, rfl, ?_⟩
          have key : ∀ y : Int32, y = (if nI (ta_ru τ 4) ≤ wd_t w k 6 + 1 then 1 else 0) → X d 105 143 [some (.inr (.inl (28, 0))), some (.inl (nI p)), some (.inl (nI s)), some (.inl (nI code)), some (.inl (nI n)), some (.inl (nI nT)), some (.inl (nI m)), some (.inl (nI k)), some (.inl (nI (6 * p + k))), z9] [] (am_si (am_si M' 52 0 (6 * p + k) (wd_t w k 6 + 1)) 54 0 (6 * p + k) y) Q := by
            rintro y rfl
            refine nxt _ (tk_miss τ (wd_t w k)) ⟨rfl, fun f i k' z => ?_, fun j hj => ?_⟩ (fun j hj => ?_) ?_
            · rw [am_si_at, if_neg (by omega), am_si_at, if_neg (by omega)]
            · unfold tk_miss
              rw [if_pos q]
              match j, hj with
              | 0, _ => refine Eq.trans ?_ (hro' 0 (by omega)); simp [am_si_at]
              | 1, _ => refine Eq.trans ?_ (hro' 1 (by omega)); simp [am_si_at]
              | 2, _ => refine Eq.trans ?_ (hro' 2 (by omega)); simp [am_si_at]
              | 3, _ => refine Eq.trans ?_ (hro' 3 (by omega)); simp [am_si_at]
              | 4, _ => refine Eq.trans ?_ (hro' 4 (by omega)); simp [am_si_at]
              | 5, _ => refine Eq.trans ?_ (hro' 5 (by omega)); simp [am_si_at]
              | 6, _ => simp [am_si_at]
              | 7, _ => refine Eq.trans ?_ (hro' 7 (by omega)); simp [am_si_at]
              | 8, _ => simp [am_si_at]
            · rw [hap_lt k hkn, hno]
            · have := (tk_miss_ok (τ := τ) (o3 k hkn)).2.2.2.2.2.2
              exact this
          refine ⟨fun (z : (am_si M' 52 0 (6 * p + k) (M'.1 52 0 (6 * p + k) + 1)).1 52 0 (6 * p + k) < M'.1 41 0 4) => ?_, fun (z : ¬ (am_si M' 52 0 (6 * p + k) (M'.1 52 0 (6 * p + k) + 1)).1 52 0 (6 * p + k) < M'.1 41 0 4) => ?_⟩
          · rw [am_si_at, if_pos ⟨rfl, rfl, rfl⟩, e52, e41] at z
            refine ⟨6 * p + k, pk, rfl, Or.inl rfl, ?_⟩
            refine (fun (y : X d 105 143 [some (.inr (.inl (28, 0))), some (.inl (nI p)), some (.inl (nI s)), some (.inl (nI code)), some (.inl (nI n)), some (.inl (nI nT)), some (.inl (nI m)), some (.inl (nI k)), some (.inl (nI (6 * p + k))), z9] [] (am_si (am_si M' 52 0 (6 * p + k) (M'.1 52 0 (6 * p + k) + 1)) 54 0 (6 * p + k) 0) Q) => y) ?_
            rw [e52]
            exact key 0 (by rw [if_neg (Int32.not_le.mpr z)])
          · rw [am_si_at, if_pos ⟨rfl, rfl, rfl⟩, e52, e41] at z
            refine ⟨6 * p + k, pk, rfl, Or.inr rfl, ?_⟩
            refine (fun (y : X d 105 143 [some (.inr (.inl (28, 0))), some (.inl (nI p)), some (.inl (nI s)), some (.inl (nI code)), some (.inl (nI n)), some (.inl (nI nT)), some (.inl (nI m)), some (.inl (nI k)), some (.inl (nI (6 * p + k))), z9] [] (am_si (am_si M' 52 0 (6 * p + k) (M'.1 52 0 (6 * p + k) + 1)) 54 0 (6 * p + k) 1) Q) => y) ?_
            rw [e52]
            exact key 1 (by rw [if_pos (Int32.not_lt.mp z)])
        · have q2 := Classical.not_not.mp q2
          rw [hbit] at q2
          have q2 : m.testBit k = true := by
            cases z : m.testBit k with
            | true => rfl
            | false => rw [z] at q2; exact absurd q2 (by decide)
          rw [q2] at hbk
          refine (fun (z : X d 105 143 [some (.inr (.inl (28, 0))), some (.inl (nI p)), some (.inl (nI s)), some (.inl (nI code)), some (.inl (nI n)), some (.inl (nI nT)), some (.inl (nI m)), some (.inl (nI k)), some (.inl (6 * nI p + nI k)), z9] [] M' Q) => z) ?_
          rw [ix6]
          refine nxt M' _ same (fun j hj => ?_) (hE' _ pk)
          show M'.1 (46 + j) 0 (6 * p + k) = _
          rw [hro j hj, hap_lt k hkn]
          cases z : jp_f ps k n 0 with
          | some x => rfl
          | none => rw [z] at hbk; cases hbk
  -- first loop: the dots
  have dots : ∀ r e : Nat, e + r = n → ∀ (m : Nat) (M' : am_M), m < 64 → (∀ k, k < 6 → m.testBit k = (jp_f ps k e 0).isSome) → mA M M' τ s w ps p P e → ∀ z8 z9, X d 105 14 [some (.inr (.inl (28, 0))), some (.inl (nI p)), some (.inl (nI s)), some (.inl (nI code)), some (.inl (nI n)), some (.inl (nI nT)), some (.inl (nI m)), some (.inl (nI e)), z8, z9] [] M' Q := by
    intro r
    induction r with
    | zero =>
      intro e he m M' hm hbits hA z8 z9
      have he : e = n := by omega
      subst he
      obtain ⟨ho, h1, h2, hr1, hr2, hac1, hac2, hE'⟩ := hA
      refine am_go hX [14, 97] 40 ?_
      refine ⟨fun _ => ?_, fun (q : ¬ nI e ≤ nI e) => absurd (nI_le (Nat.le_refl _) (by omega)) q⟩
      rw [hnT] at h1 hr1 hr2 hac2
      exact tail m hm hbits nT 0 (by omega) M' ho h1 h2 (fun k' _ q j hj => hr1 k' q j hj) (fun k' q => by omega) hr2 hac1 hac2 hE' _ _
    | succ r ih =>
      intro e he m M' hm hbits hA z8 z9
      have hen : e < n := by omega
      obtain ⟨ho, h1, h2, hr1, hr2, hac1, hac2, hE'⟩ := hA
      rw [hnT] at h1 hr1 hr2 hac2
      have hT' : rm_T M' τ := rm_T_fr hT (am_fg_of (rm_only_fr ho) []) (by simp)
      have hqe : am_nth ps e 9 = dg n code e := by rw [hps, dgs_at hen]
      have hq3 := k2 e hen
      have hnb : nT + jp_nb ps (e + 1) ≤ 6 := by have := jp_nb_le ps (a := e + 1) (b := n) (by omega); omega
      have hnbs : jp_nb ps (e + 1) = jp_nb ps e + (if am_nth ps e 9 = 6 then 1 else 0) := rfl
      have hg8 := dg_lt n code e
      generalize hq : dg n code e = q at hg8 hqe
      rw [hqe] at hq3 hnbs
      have pacc : 48 * p + 4 * s + e < 384 := by omega
      have ixa : 48 * nI p + 4 * nI s + nI e = nI (48 * p + 4 * s + e) := by rw [show (48 : Int32) = nI 48 from rfl, show (4 : Int32) = nI 4 from rfl, pk_mul, pk_mul, nI_add, nI_add]
      have e44 : M'.1 44 0 p = nI (nT + jp_nb ps e) := h1
      -- what is to be shown behind this dot
      have nxt : ∀ (M2 : am_M) (m2 : Nat), m2 < 64 → (∀ k, k < 6 → m2.testBit k = (jp_f ps k (e + 1) 0).isSome) → mA M M2 τ s w ps p P (e + 1) → ∀ z9, X d 105 93 [some (.inr (.inl (28, 0))), some (.inl (nI p)), some (.inl (nI s)), some (.inl (nI code)), some (.inl (nI n)), some (.inl (nI nT)), some (.inl (nI m2)), some (.inl (nI e)), some (.inl (nI q)), z9] [] M2 Q := by
        intro M2 m2 hm2 hb2 hA2 z9
        refine am_go hX [14] 40 ?_
        refine (fun (z : X d 105 14 [some (.inr (.inl (28, 0))), some (.inl (nI p)), some (.inl (nI s)), some (.inl (nI code)), some (.inl (nI n)), some (.inl (nI nT)), some (.inl (nI m2)), some (.inl (nI e + 1)), some (.inl (nI q)), z9] [] M2 Q) => z) ?_
        rw [nI_1]
        exact ih (e + 1) (by omega) m2 M2 hm2 hb2 hA2 _ _
      have at37 : ∀ acc : Int32, acc = jp_ac nT ps e → X d 105 37 [some (.inr (.inl (28, 0))), some (.inl (nI p)), some (.inl (nI s)), some (.inl (nI code)), some (.inl (nI n)), some (.inl (nI nT)), some (.inl (nI m)), some (.inl (nI e)), some (.inl (nI q)), z9] [.inl acc] M' Q := by
        rintro acc rfl
        generalize hM1 : am_si M' 45 0 (48 * p + 4 * s + e) (jp_ac nT ps e) = M1
        have ho1 : rm_only p M M1 := by rw [← hM1]; exact rm_only_si ho (by unfold rm_in; omega)
        have f1 : ∀ f i k, f ≠ 45 → M1.1 f i k = M'.1 f i k := fun f i k z => by rw [← hM1, am_si_at, if_neg (fun y => z y.1)]
        have f45 : ∀ k, M1.1 45 0 k = if k = 48 * p + 4 * s + e then jp_ac nT ps e else M'.1 45 0 k := fun k => by rw [← hM1, am_si_at]; simp
        have hT1 : rm_T M1 τ := rm_T_fr hT (am_fg_of (rm_only_fr ho1) []) (by simp)
        -- accounts behind
        have ac1 : ∀ s' e', P s' → s' ≠ s → e' < ta_dn τ s' → M1.1 45 0 (48 * p + (4 * s' + e')) = wd_a w s' e' := by
          intro s' e' q1 q2 q3
          have := (hτ.2.2.1 s' (hP s' q1)).2.2.1
          rw [f45, if_neg (by omega)]; exact hac1 s' e' q1 q2 q3
        have ac2 : ∀ e', e' < e + 1 → M1.1 45 0 (48 * p + (4 * s + e')) = jp_ac nT ps e' := by
          intro e' q1
          rw [f45]
          by_cases z : e' = e
          · subst z; rw [if_pos (by omega)]
          · rw [if_neg (by omega)]; exact hac2 e' (by omega)
        refine am_go hX [93] 60 ?_
        refine ⟨48 * p + 4 * s + e, pacc, ixa, ?_⟩
        refine ⟨fun (z : ¬ nI q = 6) => ?_, fun (z : ¬ ¬ nI q = 6) => ?_⟩
        · have z : q ≠ 6 := fun y => z (by rw [y]; rfl)
          rw [if_neg z, Nat.add_zero] at hnbs
          refine ⟨fun (y : (6 : Int32) ≤ nI q) => ?_, fun (y : ¬ (6 : Int32) ≤ nI q) => ?_⟩
          · have y := (nI_leI (a := 6) (by decide) (by omega)).mp y
            refine (fun (x : X d 105 93 [some (.inr (.inl (28, 0))), some (.inl (nI p)), some (.inl (nI s)), some (.inl (nI code)), some (.inl (nI n)), some (.inl (nI nT)), some (.inl (nI m)), some (.inl (nI e)), some (.inl (nI q)), some (.inl (jp_ac nT ps e))] [] (am_si M' 45 0 (48 * p + 4 * s + e) (jp_ac nT ps e)) Q) => x) ?_
            rw [hM1]
            have hf : ∀ k, k < 6 → jp_f ps k (e + 1) 0 = jp_f ps k e 0 := by
              intro k hk
              rw [jp_f_s]
              cases jp_f ps k e 0 with
              | some x => rfl
              | none =>
                show (if am_nth ps (0 + e) 9 = k then _ else none) = none
                rw [Nat.zero_add, hqe, if_neg (by omega)]
            refine nxt M1 m hm (fun k hk => by rw [hf k hk]; exact hbits k hk) ⟨ho1, ?_, ?_, fun k hk j hj => ?_, fun i hi j hj => ?_, ac1, by rw [hnT]; exact ac2, fun k hk => ?_⟩ _
            · rw [f1 _ _ _ (by omega), hnbs, hnT]; exact h1
            · rw [f1 _ _ _ (by omega)]; exact h2
            · rw [hnT] at hk
              rw [f1 _ _ _ (by omega), hf k (by omega)]; exact hr1 k hk j hj
            · rw [f1 _ _ _ (by omega), hnT]; exact hr2 i (by omega) j hj
            · rw [f1 _ _ _ (by omega)]; exact hE' k hk
          · have y : q < 6 := by
              rcases Nat.lt_or_ge q 6 with x | x
              · exact x
              · exact absurd (nI_le (a := 6) x (by omega)) y
            have hqn : q < nT := by omega
            have pq : 6 * p + q < 48 := by omega
            have hno : jp_f ps q e 0 = none := by have := jp_f_no hdi hen (by rw [hqe]; exact y); rwa [hqe] at this
            obtain ⟨or1, or2⟩ := mk_or m hm q y
            refine am_cc (by omega) ?_
            refine (fun (x : X (d - 1) 104 0 [some (.inr (.inl (28, 0))), some (.inl (6 * nI p + nI q)), some (.inl (nI s)), some (.inl (nI e)), none] [] (am_si M' 45 0 (48 * p + 4 * s + e) (jp_ac nT ps e)) _) => x) ?_
            rw [hM1, ix6]
            refine cm_goOn hX _ _ (by omega) τ hτ hT1 s e hs (by omega) (6 * p + q) pq (wd_t w q) (fun j hj => ?_) (o3 q hqn) _ (fun M2 hr => ?_)
            · rw [f1 _ _ _ (by omega), hr1 q hqn j hj, hno]
            · refine (fun (x : X d 105 93 [some (.inr (.inl (28, 0))), some (.inl (nI p)), some (.inl (nI s)), some (.inl (nI code)), some (.inl (nI n)), some (.inl (nI nT)), some (.inl (nI m ||| ((1 : Int32) <<< (nI q &&& 31)))), some (.inl (nI e)), some (.inl (nI q)), some (.inl (jp_ac nT ps e))] [] M2 Q) => x) ?_
              rw [or1]
              have hfo : ∀ k, k ≠ q → jp_f ps k (e + 1) 0 = jp_f ps k e 0 := by
                intro k hk
                rw [jp_f_s]
                cases jp_f ps k e 0 with
                | some x => rfl
                | none =>
                  show (if am_nth ps (0 + e) 9 = k then _ else none) = none
                  rw [Nat.zero_add, hqe, if_neg (by omega)]
              have hfq : jp_f ps q (e + 1) 0 = some e := by
                rw [jp_f_s, hno]
                show (if am_nth ps (0 + e) 9 = q then some (0 + e) else none) = some e
                rw [Nat.zero_add, if_pos hqe]
              refine nxt M2 _ or2 (fun k hk => ?_) ⟨rm_only_row ho1 y hr, ?_, ?_, fun k hk j hj => ?_, fun i hi j hj => ?_, fun s' e' q1 q2 q3 => ?_, fun e' q1 => ?_, fun k hk => ?_⟩ _
              · rw [Nat.testBit_or, Nat.testBit_two_pow]
                by_cases x : k = q
                · subst x; rw [hfq]; simp
                · rw [hfo k x, ← hbits k hk]
                  have : decide (q = k) = false := by simp; omega
                  rw [this, Bool.or_false]
              · rw [hr.2.1 _ _ _ (by omega), f1 _ _ _ (by omega), hnbs, hnT]; exact h1
              · rw [hr.2.1 _ _ _ (by omega), f1 _ _ _ (by omega)]; exact h2
              · rw [hnT] at hk
                by_cases x : k = q
                · subst x; rw [hr.2.2 j hj, hfq]
                · rw [hr.2.1 _ _ _ (by omega), f1 _ _ _ (by omega), hfo k x]; exact hr1 k hk j hj
              · rw [hnT, hr.2.1 _ _ _ (by omega), f1 _ _ _ (by omega)]; exact hr2 i (by omega) j hj
              · rw [hr.2.1 _ _ _ (by omega)]; exact ac1 s' e' q1 q2 q3
              · rw [hnT, hr.2.1 _ _ _ (by omega)]; exact ac2 e' q1
              · by_cases x : k = 6 * p + q
                · subst x; rw [hr.2.2 8 (by omega)]; exact (o3 q hqn).2.2.2.2.2.2
                · rw [hr.2.1 _ _ _ (by omega), f1 _ _ _ (by omega)]; exact hE' k hk
        · have z : q = 6 := (nI_eq (b := 6) (by omega) (by decide)).mp (Classical.not_not.mp z)
          rw [if_pos z] at hnbs
          have pq : 6 * p + (nT + jp_nb ps e) < 48 := by omega
          have e44' : M1.1 44 0 p = nI (nT + jp_nb ps e) := by rw [f1 _ _ _ (by omega)]; exact h1
          refine ⟨p, hp, rfl, am_cc (by omega) ?_⟩
          refine (fun (x : X (d - 1) 103 0 [some (.inr (.inl (28, 0))), some (.inl (6 * nI p + M'.1 44 0 p)), some (.inl (nI s)), some (.inl (nI e))] [] (am_si M' 45 0 (48 * p + 4 * s + e) (jp_ac nT ps e)) _) => x) ?_
          rw [hM1, e44, ix6]
          refine cm_begin hX _ _ (by omega) τ hτ hT1 s e hs (by omega) _ pq _ (fun M2 hr => ?_)
          refine ⟨p, hp, rfl, p, hp, rfl, ?_⟩
          refine (fun (x : X d 105 93 [some (.inr (.inl (28, 0))), some (.inl (nI p)), some (.inl (nI s)), some (.inl (nI code)), some (.inl (nI n)), some (.inl (nI nT)), some (.inl (nI m)), some (.inl (nI e)), some (.inl (nI q)), some (.inl (jp_ac nT ps e))] [] (am_si M2 44 0 p (M2.1 44 0 p + 1)) Q) => x) ?_
          have e2 : M2.1 44 0 p + 1 = nI (nT + jp_nb ps (e + 1)) := by rw [hr.2.1 _ _ _ (by omega), e44', nI_1, hnbs, Nat.add_assoc]
          rw [e2]
          have hf : ∀ k, k < 6 → jp_f ps k (e + 1) 0 = jp_f ps k e 0 := by
            intro k hk
            rw [jp_f_s]
            cases jp_f ps k e 0 with
            | some x => rfl
            | none =>
              show (if am_nth ps (0 + e) 9 = k then _ else none) = none
              rw [Nat.zero_add, hqe, if_neg (by omega)]
          have hdot : jp_dot ps (jp_nb ps e) = e := jp_dot_at ps (by omega) (by rw [hqe, z])
          refine nxt _ m hm (fun k hk => by rw [hf k hk]; exact hbits k hk) ⟨rm_only_si (rm_only_row (k := nT + jp_nb ps e) ho1 (by omega) hr) (by unfold rm_in; omega), ?_, ?_, fun k hk j hj => ?_, fun i hi j hj => ?_, fun s' e' q1 q2 q3 => ?_, fun e' q1 => ?_, fun k hk => ?_⟩ _
          · rw [am_si_at, if_pos ⟨rfl, rfl, rfl⟩, hnT]
          · rw [am_si_at, if_neg (by omega), hr.2.1 _ _ _ (by omega), f1 _ _ _ (by omega)]; exact h2
          · rw [hnT] at hk
            rw [am_si_at, if_neg (by omega), hr.2.1 _ _ _ (by omega), f1 _ _ _ (by omega), hf k (by omega)]; exact hr1 k hk j hj
          · rw [am_si_at, if_neg (by omega), hnT]
            by_cases x : i = jp_nb ps e
            · subst x; rw [hr.2.2 j hj, hdot]
            · rw [hr.2.1 _ _ _ (by omega), f1 _ _ _ (by omega)]; exact hr2 i (by omega) j hj
          · rw [am_si_at, if_neg (by omega), hr.2.1 _ _ _ (by omega)]; exact ac1 s' e' q1 q2 q3
          · rw [am_si_at, if_neg (by omega), hnT, hr.2.1 _ _ _ (by omega)]; exact ac2 e' q1
          · rw [am_si_at, if_neg (by omega)]
            by_cases x : k = 6 * p + (nT + jp_nb ps e)
            · subst x; rw [hr.2.2 8 (by omega)]; exact Or.inl rfl
            · rw [hr.2.1 _ _ _ (by omega), f1 _ _ _ (by omega)]; exact hE' k hk
      refine am_go hX [14, 37] 60 ?_
      refine ⟨fun (z : nI n ≤ nI e) => absurd z (nI_ge hen (by omega)), fun _ => am_cc (by omega) (cm_digit hX _ _ n code e (by omega) hen hcode _ ?_)⟩
      rw [hq]
      refine ⟨fun (z : ¬ nI q = 7) => ?_, fun (z : ¬ ¬ nI q = 7) => ?_⟩
      · have z : q ≠ 7 := fun y => z (by rw [y]; rfl)
        refine ⟨fun (y : ¬ nI q = 6) => ?_, fun (y : ¬ ¬ nI q = 6) => ?_⟩
        · have y : q ≠ 6 := fun x => y (by rw [x]; rfl)
          refine at37 (nI q) ?_
          unfold jp_ac
          rw [hqe, if_neg z, if_neg y]
        · have y : q = 6 := (nI_eq (b := 6) (by omega) (by decide)).mp (Classical.not_not.mp y)
          refine ⟨p, hp, rfl, ?_⟩
          refine at37 (M'.1 44 0 p) ?_
          unfold jp_ac
          rw [hqe, if_neg z, if_pos y, e44]
      · have z : q = 7 := (nI_eq (b := 7) (by omega) (by decide)).mp (Classical.not_not.mp z)
        refine at37 (-1) ?_
        unfold jp_ac
        rw [hqe, if_pos z]
  refine am_go hX [14] 40 ?_
  refine ⟨s, by show s < 12; omega, rfl, p, hp, rfl, ?_⟩
  refine (fun (z : X d 105 14 [some (.inr (.inl (28, 0))), some (.inl (nI p)), some (.inl (nI s)), some (.inl (nI code)), some (.inl (M.1 33 0 s)), some (.inl (M.1 44 0 p)), some (.inl (nI 0)), some (.inl (nI 0)), none, none] [] M Q) => z) ?_
  rw [a3, h44]
  refine dots n 0 (by omega) 0 M (by omega) (fun k _ => by simp [jp_f]) ⟨rm_only_rf p M, by rw [hnT]; exact h44, rfl, fun k hk j hj => ?_, fun i hi => ?_, fun s' e' q1 _ q3 => hacc s' e' q1 q3, fun e' q => by omega, hE⟩ _ _
  · rw [hnT] at hk; exact hrows k hk j hj
  · exact absurd hi (Nat.not_lt_zero i)
end
section
/-! the reference takes a scan in -/
def jc (τ : ta) (s : Nat) (w : wd) (code : Nat) : Option (Nat × List Nat) :=
  (jv (fun k e => tk_toll τ (wd_t w k) s e) (wd_n w) (ta_ru τ 2) (ta_ru τ 3) (dg (ta_dn τ s) code) (ta_dn τ s) 0 (fun _ => false) 0).map fun y => (wd_c w + y.1 + jn_cnt (fun k => decide (wd_t w k 8 = 0)) y.2 (wd_n w) * ta_ru τ 1, dgs (ta_dn τ s) code)
theorem jn_all_codes {τ : ta} (hτ : ta_ok τ) (s : Nat) (w : wd) (hw : wd_n w ≤ 6) : jn_all τ s w = (List.range (8 ^ ta_dn τ s)).filterMap (jc τ s w) := by
  unfold jn_all
  rw [jn_sub_dls _ (fun k => decide (wd_t w k 8 = 0)) _ _ _ _ hw (fun k e t h => by simpa using (tk_toll_le hτ h).2) _ _ _ _ _ _ _ (wd_lk_cnt _ _), dls_map _ (fun x => x), List.filterMap_map]
  congr 1
  funext c
  show Option.map _ (jv _ _ _ _ (fun i => am_nth (dgs (ta_dn τ s) c) (i - 0) 9) _ _ _ _) = jc τ s w c
  unfold jc
  rw [jv_c (g := fun i => am_nth (dgs (ta_dn τ s) c) (i - 0) 9) (g' := dg (ta_dn τ s) c) _ _ _ _ _ _ _ _ (fun i h1 h2 => dgs_at (by omega))]
  rfl
def rm_E (M : am_M) : Prop := ∀ k, k < 48 → M.1 54 0 k = 0 ∨ M.1 54 0 k = 1
def rm_K (M : am_M) (τ : ta) (P : Nat → Prop) (m : Nat) (ws : List wd) : Prop :=
  M.1 28 0 18 = nI ws.length ∧ ws.length ≤ 4 ∧ ∃ b, (b = 0 ∨ b = 4) ∧ M.1 28 0 19 = nI b ∧ ∀ i, i < ws.length → rm_W M τ P (b + i) (am_nth ws i wd_0) ∧ wd_ok m (am_nth ws i wd_0)
theorem rm_W_fr {M M' : am_M} {L : List Nat} {τ : ta} {P : Nat → Prop} {p : Nat} {w : wd} (h : rm_W M τ P p w) (fr : am_fr L M M') (hL : ∀ f, 43 ≤ f → f ≤ 54 → f ∉ L) : rm_W M' τ P p w := by
  obtain ⟨h1, h2, h3, h4⟩ := h
  exact ⟨(fr.2 _ _ _ (hL 43 (by omega) (by omega))).trans h1, (fr.2 _ _ _ (hL 44 (by omega) (by omega))).trans h2, fun k hk j hj => (fr.2 _ _ _ (hL _ (by omega) (by omega))).trans (h3 k hk j hj), fun s e hs he => (fr.2 _ _ _ (hL 45 (by omega) (by omega))).trans (h4 s e hs he)⟩
theorem rm_W_only {M M' : am_M} {b : Nat} {τ : ta} {P : Nat → Prop} {p : Nat} {w : wd} (hP : ∀ s, P s → s < 12 ∧ ta_dn τ s ≤ 4) (hw : wd_n w ≤ 6) (h : rm_W M τ P p w) (ho : rm_only b M M') (hpb : p ≠ b) : rm_W M' τ P p w := by
  obtain ⟨h1, h2, h3, h4⟩ := h
  refine ⟨(ho.2 _ _ _ (fun z => by unfold rm_in at z; omega)).trans h1, (ho.2 _ _ _ (fun z => by unfold rm_in at z; omega)).trans h2, fun k hk j hj => (ho.2 _ _ _ (fun z => by unfold rm_in at z; omega)).trans (h3 k hk j hj), fun s e hs he => ?_⟩
  obtain ⟨p1, p2⟩ := hP s hs
  exact (ho.2 _ _ _ (fun z => by unfold rm_in at z; omega)).trans (h4 s e hs he)
theorem cm_L_fr {M M' : am_M} {L : List Nat} {K b n : Nat} {l : List jn} (h : cm_L M K b n l) (fr : am_fr L M M') (hL : 28 ∉ L ∧ 56 ∉ L ∧ 57 ∉ L ∧ 58 ∉ L) : cm_L M' K b n l := by
  obtain ⟨h1, h2, h3, h4⟩ := h
  refine ⟨(fr.2 _ _ _ hL.1).trans h1, h2, h3, fun i hi => ?_⟩
  rw [fr.2 _ _ _ hL.2.1, fr.2 _ _ _ hL.2.2.1, fr.2 _ _ _ hL.2.2.2]; exact h4 i hi
theorem mk_shl8 : ∀ n, n < 5 → (1 : Int32) <<< (3 * nI n &&& 31) = nI (8 ^ n) := by decide +kernel
set_option maxHeartbeats 2000000 in
theorem cm_takeScan {X : am_X} (hX : am_Cl X) (d : Nat) (M : am_M) (hd : 3 ≤ d) (τ : ta) (hτ : ta_ok τ) (hT : rm_T M τ) (hE : rm_E M) (s : Nat) (hs : s < ta_n τ) (P : Nat → Prop) (hP : ∀ s, P s → s < ta_n τ) (m : Nat) (hm : m < 12) (ws : List wd) (hK : rm_K M τ P m ws) (Q : am_P)
    (h : ∀ M', am_fr [28, 43, 44, 45, 46, 47, 48, 49, 50, 51, 52, 53, 54, 55, 56, 57, 58] M M' → (∀ k, k ≠ 18 → k ≠ 19 → k ≠ 33 → M'.1 28 0 k = M.1 28 0 k) → rm_K M' τ (fun s' => s' = s ∨ P s') (m + 1) (wd_step τ s ws) → rm_E M' → Q none M') : X d 106 0 [some (.inr (.inl (28, 0))), some (.inl (nI s)), none, none, none, none, none] [] M Q := by
  obtain ⟨q1, q2, b, hb, q3, q4⟩ := hK
  obtain ⟨t1, t2, t3, t4, t5⟩ := id hT
  obtain ⟨a1, a2, a3, a4⟩ := t3 s hs
  have hK5 := hτ.2.2.2.2.2.2.2.2.2
  have hn12 := hτ.1
  have hbest := jn_best_ok hτ hs (fun i hi => (q4 i hi).2)
  have hst := wd_step_ok hτ hs (fun i hi => (q4 i hi).2)
  have h4 := (hτ.2.2.1 s hs).2.2.1
  have hP12 : ∀ s, P s → s < 12 ∧ ta_dn τ s ≤ 4 := fun s' hs' => ⟨by have := hP s' hs'; omega, (hτ.2.2.1 s' (hP s' hs')).2.2.1⟩
  have hP12' : ∀ s', (s' = s ∨ P s') → s' < 12 ∧ ta_dn τ s' ≤ 4 := fun s' hs' => by
    rcases hs' with rfl | hs'
    · exact ⟨by omega, h4⟩
    · exact hP12 s' hs'
  generalize hKK : ta_ru τ 5 = K at *
  generalize hnn : ta_dn τ s = n at *
  have hnx : (4 : Int32) - nI b = nI (4 - b) := by rcases hb with rfl | rfl <;> rfl
  have h8 : 8 ^ n ≤ 4096 := by
    have : n = 0 ∨ n = 1 ∨ n = 2 ∨ n = 3 ∨ n = 4 := by omega
    rcases this with z | z | z | z | z <;> rw [z] <;> decide
  generalize hN : 8 ^ n = N at *
  generalize hf : (fun i => (jn_all τ s (am_nth ws i wd_0)).map fun c => ((c.1, i, c.2) : jn)) = f
  have hbl : jn_best τ s ws = ((List.range ws.length).flatMap f).foldl (jn_off K) [] := by rw [← hf, ← hKK]; rfl
  -- frames keep what was told
  have keepT : ∀ M' : am_M, am_fr [28, 43, 44, 45, 46, 47, 48, 49, 50, 51, 52, 53, 54, 55, 56, 57, 58] M M' → (∀ k, k ≠ 33 → M'.1 28 0 k = M.1 28 0 k) → rm_T M' τ := fun M' fr h28 => rm_T_fr' hT (am_fg_of fr []) (h28 1 (by omega)) (by simp)
  -- the end
  have fin : ∀ (M2 : am_M), am_fr [28, 43, 44, 45, 46, 47, 48, 49, 50, 51, 52, 53, 54, 55, 56, 57, 58] M M2 → (∀ k, k ≠ 33 → M2.1 28 0 k = M.1 28 0 k) → rm_E M2 → M2.1 28 0 33 = nI (jn_best τ s ws).length → (∀ i, i < (jn_best τ s ws).length → rm_W M2 τ (fun s' => s' = s ∨ P s') (4 - b + i) (am_nth (wd_step τ s ws) i wd_0)) → ∀ z4 z5 z6, X d 106 96 [some (.inr (.inl (28, 0))), some (.inl (nI s)), some (.inl (nI N)), some (.inl (nI (4 - b))), z4, z5, z6] [] M2 Q := by
    intro M2 fr2 h28 hE2 hlen hw2 z4 z5 z6
    refine am_go hX [] 40 ?_
    refine (fun (z : Q none (am_si (am_si M2 28 0 18 (M2.1 28 0 33)) 28 0 19 (nI (4 - b)))) => z) ?_
    have fr3 : am_fr [28] M2 (am_si (am_si M2 28 0 18 (M2.1 28 0 33)) 28 0 19 (nI (4 - b))) := am_fr_si (am_fr_si (am_fr_rf _ _) (by simp)) (by simp)
    refine h _ (am_fr_tr fr2 (am_fr_mono fr3 (by simp))) (fun k x1 x2 x3 => ?_) ⟨?_, ?_, 4 - b, by omega, ?_, fun i hi => ?_⟩ (fun k hk => ?_)
    · rw [am_si_at, if_neg (by omega), am_si_at, if_neg (by omega)]; exact h28 k x3
    · rw [am_si_at, if_neg (by omega), am_si_at, if_pos ⟨rfl, rfl, rfl⟩, hlen, hst.1]
    · rw [hst.1]; have := hbest.1; omega
    · rw [am_si_at, if_pos ⟨rfl, rfl, rfl⟩]
    · rw [hst.1] at hi
      exact ⟨rm_W_fr (hw2 i hi) fr3 (fun f _ _ => by simp; omega), (hst.2 i hi).2⟩
    · rw [fr3.2 54 0 k (by simp)]; exact hE2 k hk
  -- second loop: carrying out
  have carry : ∀ r i : Nat, i + r = (jn_best τ s ws).length → ∀ M2 : am_M, am_fr [28, 43, 44, 45, 46, 47, 48, 49, 50, 51, 52, 53, 54, 55, 56, 57, 58] M M2 → (∀ k, k ≠ 33 → M2.1 28 0 k = M.1 28 0 k) → rm_E M2 → cm_L M2 K b n (jn_best τ s ws) → (∀ p, p < ws.length → rm_W M2 τ P (b + p) (am_nth ws p wd_0)) → (∀ i', i' < i → rm_W M2 τ (fun s' => s' = s ∨ P s') (4 - b + i') (am_nth (wd_step τ s ws) i' wd_0)) → ∀ z5 z6, X d 106 61 [some (.inr (.inl (28, 0))), some (.inl (nI s)), some (.inl (nI N)), some (.inl (nI (4 - b))), some (.inl (nI i)), z5, z6] [] M2 Q := by
    intro r
    induction r with
    | zero =>
      intro i hi M2 fr2 h28 hE2 hL2 hkept hdone z5 z6
      have hi : i = (jn_best τ s ws).length := by omega
      subst hi
      refine am_go hX [61, 96] 40 ?_
      refine ⟨fun _ => fin M2 fr2 h28 hE2 hL2.1 hdone _ _ _, fun (q : ¬ M2.1 28 0 33 ≤ nI (jn_best τ s ws).length) => absurd (by rw [hL2.1]; exact nI_le (Nat.le_refl _) (by have := hbest.1; omega)) q⟩
    | succ r ih =>
      intro i hi M2 fr2 h28 hE2 hL2 hkept hdone z5 z6
      have hbl' := hbest.1
      have hil : i < (jn_best τ s ws).length := by omega
      obtain ⟨c1, c2, c3, code, c4, c5, c6⟩ := hL2.2.2.2 i hil
      obtain ⟨x1, x2, x3, x4⟩ := hbest.2.2 _ (am_nth_in (d := jn_0) hil)
      generalize hx : am_nth (jn_best τ s ws) i jn_0 = x at c1 c2 c3 c6 x1 x2 x3 x4
      have hne : b + x.2.1 ≠ 4 - b + i := by omega
      have ixn : nI (4 - b) + nI i = nI (4 - b + i) := nI_add _ _
      have lt8 : 4 - b + i < 8 := by omega
      have hWp := hkept x.2.1 x1
      have hokp := (q4 x.2.1 x1).2
      refine am_go hX [61] 60 ?_
      refine ⟨fun (q : M2.1 28 0 33 ≤ nI i) => absurd q (by rw [hL2.1]; exact nI_ge hil (by omega)), fun _ => ?_⟩
      refine ⟨i, by show i < 5; omega, rfl, am_cc (by omega) ?_⟩
      refine (fun (z : X (d - 1) 101 0 [some (.inr (.inl (28, 0))), some (.inl (M2.1 57 0 i)), some (.inl (nI (4 - b) + nI i)), none, none, none] [] M2 _) => z) ?_
      rw [c2, ixn]
      refine cm_copyWorld hX _ _ hE2 (b + x.2.1) (4 - b + i) (by omega) lt8 hne _ (fun M3 ho3 g1 g2 g3 g4 => ?_)
      have fr3 := rm_only_fr ho3
      have e56 : M3.1 56 0 i = nI x.1 := (fr3.2 56 0 i (by simp)).trans c1
      have e58 : M3.1 58 0 i = nI code := (fr3.2 58 0 i (by simp)).trans c5
      refine ⟨i, by show i < 5; omega, rfl, 4 - b + i, lt8, ixn, i, by show i < 5; omega, rfl, am_cc (by omega) ?_⟩
      refine (fun (z : X (d - 1) 105 0 [some (.inr (.inl (28, 0))), some (.inl (nI (4 - b) + nI i)), some (.inl (nI s)), some (.inl (M3.1 58 0 i)), none, none, none, none, none, none] [] (am_si M3 43 0 (4 - b + i) (M3.1 56 0 i)) _) => z) ?_
      rw [e56, e58, ixn]
      generalize hM4 : am_si M3 43 0 (4 - b + i) (nI x.1) = M4
      have ho4 : rm_only (4 - b + i) M2 M4 := by rw [← hM4]; exact rm_only_si ho3 (by unfold rm_in; omega)
      have fr4 := rm_only_fr ho4
      have f4 : ∀ f i k, f ≠ 43 → M4.1 f i k = M3.1 f i k := fun f i k z => by rw [← hM4, am_si_at, if_neg (fun y => z y.1)]
      have hE4 : rm_E M4 := by
        intro k hk
        rw [f4 54 0 k (by omega)]
        by_cases z : 6 * (4 - b + i) ≤ k ∧ k < 6 * (4 - b + i) + 6
        · have := g4 8 (k - 6 * (4 - b + i)) (by omega) (by omega)
          rw [show 6 * (4 - b + i) + (k - 6 * (4 - b + i)) = k by omega] at this
          rw [this]; exact hE2 _ (by omega)
        · rw [ho3.2 54 0 k (fun y => by unfold rm_in at y; omega)]; exact hE2 k hk
      have hT4 : rm_T M4 τ := keepT M4 (am_fr_tr fr2 (am_fr_mono fr4 (by simp))) (fun k hk => (fr4.2 28 0 k (by simp)).trans (h28 k hk))
      refine cm_apply hX _ _ (by omega) τ hτ hT4 hE4 s (4 - b + i) hs lt8 P hP (am_nth ws x.2.1 wd_0) m hokp x.1 code c4 ?_ ?_ (fun k hk j hj => ?_) (fun s' e' hs' he' => ?_) x.2.2 (by rw [hnn]; exact c6) (by rw [hnn]; exact x2) (by rw [hnn]; exact x3) _ (fun M5 ho5 hW5 hE5 => ?_)
      · rw [← hM4, am_si_at, if_pos ⟨rfl, rfl, rfl⟩]
      · rw [f4 _ _ _ (by omega), g2]; exact hWp.2.1
      · rw [f4 _ _ _ (by omega), g4 j k hj (by have := hokp.1; omega)]; exact hWp.2.2.1 k hk j hj
      · obtain ⟨p1, p2⟩ := hP12 s' hs'
        rw [f4 _ _ _ (by omega), g3 (4 * s' + e') (by omega)]; exact hWp.2.2.2 s' e' hs' he'
      have ho : rm_only (4 - b + i) M2 M5 := rm_only_tr ho4 ho5
      have fr5 := rm_only_fr ho
      refine (fun (z : X d 106 61 [some (.inr (.inl (28, 0))), some (.inl (nI s)), some (.inl (nI N)), some (.inl (nI (4 - b))), some (.inl (nI i + 1)), z5, z6] [] M5 Q) => z) ?_
      rw [nI_1]
      refine ih (i + 1) (by omega) M5 (am_fr_tr fr2 (am_fr_mono fr5 (by simp))) (fun k hk => (fr5.2 28 0 k (by simp)).trans (h28 k hk)) hE5 (cm_L_fr hL2 fr5 (by simp)) (fun p hp => rm_W_only hP12 (q4 p hp).2.1 (hkept p hp) ho (by omega)) (fun i' hi' => ?_) _ _
      by_cases z : i' = i
      · subst z
        rw [(hst.2 i' hil).1, hx]; exact hW5
      · exact rm_W_only hP12' (hst.2 i' (by omega)).2.1 (hdone i' (by omega)) ho (by omega)
  -- first loop: all codes of all worlds
  have deal : ∀ r i : Nat, i + r = ws.length → ∀ M2 : am_M, am_fr [28, 55, 56, 57, 58] M M2 → (∀ k, k ≠ 33 → M2.1 28 0 k = M.1 28 0 k) → cm_L M2 K b n (((List.range i).flatMap f).foldl (jn_off K) []) → ∀ z4 z5 z6, X d 106 14 [some (.inr (.inl (28, 0))), some (.inl (nI s)), some (.inl (nI N)), some (.inl (nI i)), z4, z5, z6] [] M2 Q := by
    intro r
    induction r with
    | zero =>
      intro i hi M2 fr2 h28 hL2 z4 z5 z6
      have hi : i = ws.length := by omega
      subst hi
      rw [← hbl] at hL2
      have e18 : M2.1 28 0 18 = nI ws.length := (h28 18 (by omega)).trans q1
      have e19 : M2.1 28 0 19 = nI b := (h28 19 (by omega)).trans q3
      refine am_go hX [14, 61] 40 ?_
      refine ⟨fun _ => ?_, fun (q : ¬ M2.1 28 0 18 ≤ nI ws.length) => absurd (by rw [e18]; exact nI_le (Nat.le_refl _) (by omega)) q⟩
      refine (fun (z : X d 106 61 [some (.inr (.inl (28, 0))), some (.inl (nI s)), some (.inl (nI N)), some (.inl (4 - M2.1 28 0 19)), some (.inl (nI 0)), z5, z6] [] M2 Q) => z) ?_
      rw [e19, hnx]
      exact carry (jn_best τ s ws).length 0 (by omega) M2 (am_fr_mono fr2 (by simp)) h28 (fun k hk => by rw [fr2.2 54 0 k (by simp)]; exact hE k hk) hL2 (fun p hp => rm_W_fr (q4 p hp).1 fr2 (fun f _ _ => by simp; omega)) (fun i' hi' => by omega) _ _
    | succ r ih =>
      intro i hi M2 fr2 h28 hL2 z4 z5 z6
      have hil : i < ws.length := by omega
      have e18 : M2.1 28 0 18 = nI ws.length := (h28 18 (by omega)).trans q1
      have e19 : M2.1 28 0 19 = nI b := (h28 19 (by omega)).trans q3
      have hT2 : rm_T M2 τ := keepT M2 (am_fr_mono fr2 (by simp)) h28
      have hW2 := rm_W_fr (q4 i hil).1 fr2 (fun f _ _ => by simp; omega)
      have hokw := (q4 i hil).2
      generalize hl0 : ((List.range i).flatMap f).foldl (jn_off K) [] = l0 at hL2
      generalize hw0 : am_nth ws i wd_0 = w at hW2 hokw
      refine am_go hX [14, 29] 40 ?_
      refine ⟨fun (q : M2.1 28 0 18 ≤ nI i) => absurd q (by rw [e18]; exact nI_ge hil (by omega)), fun _ => am_cc (by omega) ?_⟩
      refine (fun (z : X (d - 1) 97 0 [some (.inr (.inl (28, 0))), some (.inl (M2.1 28 0 19 + nI i)), some (.inl (nI s)), none, none, none, none, none, none, none, none, none, none] [] M2 _) => z) ?_
      rw [e19, nI_add]
      refine cm_findJoins hX _ _ (by omega) τ hτ hT2 s (b + i) hs (by omega) P w hW2 m hokw _ (fun M3 fr3 hj3 => ?_)
      refine (fun (z : X d 106 29 [some (.inr (.inl (28, 0))), some (.inl (nI s)), some (.inl (nI N)), some (.inl (nI i)), some (.inl (nI (b + i))), some (.inl (nI 0)), z6] [] M3 Q) => z) ?_
      have hL3 : cm_L M3 K b n l0 := cm_L_fr hL2 fr3 (by simp)
      -- the codes
      have codes : ∀ r2 code : Nat, code + r2 = N → ∀ M4 : am_M, am_fr [28, 56, 57, 58] M3 M4 → (∀ k, k ≠ 33 → M4.1 28 0 k = M3.1 28 0 k) → cm_L M4 K b n ((((List.range code).filterMap (jc τ s w)).map fun c => ((c.1, i, c.2) : jn)).foldl (jn_off K) l0) → ∀ z6, X d 106 29 [some (.inr (.inl (28, 0))), some (.inl (nI s)), some (.inl (nI N)), some (.inl (nI i)), some (.inl (nI (b + i))), some (.inl (nI code)), z6] [] M4 Q := by
        intro r2
        induction r2 with
        | zero =>
          intro code hcode M4 fr4 h284 hL4 z6
          have hcode : code = N := by omega
          subst hcode
          refine am_go hX [14, 29] 40 ?_
          refine ⟨fun _ => ?_, fun (q : ¬ nI code ≤ nI code) => absurd (nI_le (Nat.le_refl _) (by omega)) q⟩
          refine (fun (z : X d 106 14 [some (.inr (.inl (28, 0))), some (.inl (nI s)), some (.inl (nI code)), some (.inl (nI i + 1)), some (.inl (nI (b + i))), some (.inl (nI code)), z6] [] M4 Q) => z) ?_
          rw [nI_1]
          refine ih (i + 1) (by omega) M4 (am_fr_tr fr2 (am_fr_tr (am_fr_mono fr3 (by simp)) (am_fr_mono fr4 (by simp)))) (fun k hk => (h284 k hk).trans ((fr3.2 28 0 k (by simp)).trans (h28 k hk))) ?_ _ _ _
          rw [List.range_succ, List.flatMap_append, List.foldl_append, hl0]
          have e : ([i] : List Nat).flatMap f = ((List.range code).filterMap (jc τ s w)).map fun c => ((c.1, i, c.2) : jn) := by
            rw [← hf, List.flatMap_cons, List.flatMap_nil, List.append_nil, hw0, jn_all_codes hτ s w hokw.1, hnn, hN]
          rw [e]; exact hL4
        | succ r2 ih2 =>
          intro code hcode M4 fr4 h284 hL4 z6
          have hcl : code < 4096 := by omega
          have fr34 : am_fr [28, 55, 56, 57, 58] M M4 := am_fr_tr fr2 (am_fr_tr (am_fr_mono fr3 (by simp)) (am_fr_mono fr4 (by simp)))
          have h28m : ∀ k, k ≠ 33 → M4.1 28 0 k = M.1 28 0 k := fun k hk => (h284 k hk).trans ((fr3.2 28 0 k (by simp)).trans (h28 k hk))
          have hT4 : rm_T M4 τ := keepT M4 (am_fr_mono fr34 (by simp)) h28m
          have hW4 : rm_W M4 τ P (b + i) w := rm_W_fr (rm_W_fr hW2 fr3 (fun f _ _ => by simp; omega)) fr4 (fun f _ _ => by simp; omega)
          have hj4 : ∀ e k, e < ta_dn τ s → k < 8 → M4.1 55 0 (8 * e + k) = mj_v τ s w e k := fun e k he hk => (fr4.2 55 0 _ (by simp)).trans (hj3 e k he hk)
          -- behind this code
          have nxt : ∀ M5 : am_M, am_fr [28, 56, 57, 58] M3 M5 → (∀ k, k ≠ 33 → M5.1 28 0 k = M3.1 28 0 k) → cm_L M5 K b n ((((List.range (code + 1)).filterMap (jc τ s w)).map fun c => ((c.1, i, c.2) : jn)).foldl (jn_off K) l0) → ∀ z6, X d 106 50 [some (.inr (.inl (28, 0))), some (.inl (nI s)), some (.inl (nI N)), some (.inl (nI i)), some (.inl (nI (b + i))), some (.inl (nI code)), z6] [] M5 Q := by
            intro M5 fr5 h285 hL5 z6
            refine am_go hX [29] 40 ?_
            refine (fun (z : X d 106 29 [some (.inr (.inl (28, 0))), some (.inl (nI s)), some (.inl (nI N)), some (.inl (nI i)), some (.inl (nI (b + i))), some (.inl (nI code + 1)), z6] [] M5 Q) => z) ?_
            rw [nI_1]
            exact ih2 (code + 1) (by omega) M5 fr5 h285 hL5 _
          rw [List.range_succ, List.filterMap_append, List.map_append, List.foldl_append] at nxt
          refine am_go hX [29, 50] 40 ?_
          refine ⟨fun (q : nI N ≤ nI code) => absurd q (nI_ge (by omega) (by omega)), fun _ => am_cc (by omega) ?_⟩
          refine cm_costOf hX _ _ (by omega) τ hτ hT4 s (b + i) hs (by omega) P w hW4 m hokw hj4 code hcl _ (fun hv => ?_) (fun x tak hv hx => ?_)
          · refine ⟨fun _ => ?_, fun (q : ¬ (-1 : Int32) < 0) => absurd (by decide) q⟩
            have e : jc τ s w code = none := by unfold jc; rw [hv]; rfl
            refine nxt M4 fr4 h284 ?_ _
            have e2 : List.filterMap (jc τ s w) [code] = [] := by simp [e]
            rw [e2]; exact hL4
          · refine ⟨fun (q : nI _ < 0) => absurd q (nI_pos (by omega)), fun _ => ?_⟩
            refine ⟨b + i, by show b + i < 8; omega, rfl, am_cc (by omega) ?_⟩
            have e : jc τ s w code = some (wd_c w + x + jn_cnt (fun k => decide (wd_t w k 8 = 0)) tak (wd_n w) * ta_ru τ 1, dgs n code) := by unfold jc; rw [hv, hnn]; rfl
            generalize hcc : jn_cnt (fun k => decide (wd_t w k 8 = 0)) tak (wd_n w) * ta_ru τ 1 = cc at e hx
            refine (fun (z : X (d - 1) 100 0 [some (.inr (.inl (28, 0))), some (.inl (M4.1 43 0 (b + i) + nI (x + cc))), some (.inl (nI (b + i))), some (.inl (nI code)), none] [] M4 _) => z) ?_
            rw [hW4.1, nI_add, ← Nat.add_assoc]
            have hcw := hokw.2.1
            have hcw2 : 1600000 * m ≤ 1600000 * 12 := Nat.mul_le_mul_left _ (by omega)
            refine cm_offer hX _ _ K hK5 ((hT4.2.2.2.2 5 (by omega)).trans (by rw [hKK])) b n _ hL4 (wd_c w + x + cc) i code (by omega) hcl _ (fun M5 fr5 h285 hL5 => ?_)
            refine nxt M5 (am_fr_tr fr4 fr5) (fun k hk => (h285 k hk).trans (h284 k hk)) ?_ _
            have e2 : List.filterMap (jc τ s w) [code] = [(wd_c w + x + cc, dgs n code)] := by simp [e]
            rw [e2]; exact hL5
      exact codes N 0 (by omega) M3 (am_fr_rf _ _) (fun _ _ => rfl) hL3 _
  refine am_go hX [14] 40 ?_
  refine ⟨s, by show s < 12; omega, rfl, ?_⟩
  refine (fun (z : X d 106 14 [some (.inr (.inl (28, 0))), some (.inl (nI s)), some (.inl ((1 : Int32) <<< (3 * M.1 33 0 s &&& 31))), some (.inl (nI 0)), none, none, none] [] (am_si M 28 0 33 0) Q) => z) ?_
  rw [a3, mk_shl8 n (by omega), hN]
  refine deal ws.length 0 (by omega) _ (am_fr_si (am_fr_rf _ M) (by simp)) (fun k hk => by rw [am_si_at, if_neg (fun z => hk z.2.2)]) ⟨by rw [am_si_at, if_pos ⟨rfl, rfl, rfl⟩]; rfl, Nat.zero_le _, fun i j _ hj => by simp at hj, fun i hi => by simp at hi⟩ _ _ _
end
section
/-! the reference's order of scans; renew -/
theorem cm_sort {X : am_X} (hX : am_Cl X) (d : Nat) (M : am_M) (τ : ta) (hτ : ta_ok τ) (hT : rm_T M τ) (Q : am_P) (h : ∀ M', am_fr [42] M M' → (∀ i, i < ta_n τ → M'.1 42 0 i = nI (od τ i)) → Q none M') : X d 93 0 [some (.inr (.inl (28, 0))), none, none] [] M Q := by
  obtain ⟨r1, r2, r3, r4, r5⟩ := id hT
  have hn12 := hτ.1
  refine am_go hX [2] 40 ?_
  have outer : ∀ t s : Nat, s + t = ta_n τ → ∀ M' : am_M, am_fr [42] M M' → (∀ i, i < s → M'.1 42 0 i = nI (od_k (ta_mo τ) s i)) → ∀ z, X d 93 2 [some (.inr (.inl (28, 0))), some (.inl (nI s)), z] [] M' Q := by
    intro t
    induction t with
    | zero =>
      intro s hs M' fr ho z
      have hs : s = ta_n τ := by omega
      subst hs
      have e : M'.1 28 0 1 = nI (ta_n τ) := (fr.2 28 0 1 (by simp)).trans r1
      refine am_go hX [2] 40 ?_
      exact ⟨fun _ => h M' fr ho, fun (q : ¬ M'.1 28 0 1 ≤ nI (ta_n τ)) => absurd (by rw [e]; exact nI_le (Nat.le_refl _) (by omega)) q⟩
    | succ t ih =>
      intro s hs M' fr ho z
      have e : M'.1 28 0 1 = nI (ta_n τ) := (fr.2 28 0 1 (by simp)).trans r1
      have hsn : s < ta_n τ := by omega
      have fin : ∀ (p : Nat) (f : Nat → Nat) (M2 : am_M), p ≤ s → am_fr [42] M M2 → (∀ i, i ≤ s → i ≠ p → M2.1 42 0 i = nI (f i)) → f p = s → (∀ i, i < s + 1 → od_k (ta_mo τ) (s + 1) i = f i) → X d 93 36 [some (.inr (.inl (28, 0))), some (.inl (nI s)), some (.inl (nI p))] [] M2 Q := by
        intro p f M2 hp fr2 hf hfp hod
        refine am_go hX [2] 40 ?_
        refine ⟨p, by show p < 12; omega, rfl, ?_⟩
        refine (fun (w : X d 93 2 [some (.inr (.inl (28, 0))), some (.inl (nI s + 1)), some (.inl (nI p))] [] (am_si M2 42 0 p (nI s)) Q) => w) ?_
        rw [nI_1]
        refine ih (s + 1) (by omega) _ (am_fr_si fr2 (by simp)) (fun i hi => ?_) _
        rw [am_si_at, hod i hi]
        by_cases c : i = p
        · rw [if_pos ⟨rfl, rfl, c⟩, c, hfp]
        · rw [if_neg (fun q => c q.2.2)]; exact hf i (by omega) c
      have inner : ∀ (p : Nat) (o : Nat → Nat) (M2 : am_M), p ≤ s → am_fr [42] M M2 → (∀ i, i ≤ s → i ≠ p → M2.1 42 0 i = nI (o i)) → (∀ i, i < p → o i < s) → (∀ i, i < s + 1 → od_k (ta_mo τ) (s + 1) i = od_in (ta_mo τ) s p o i) → X d 93 8 [some (.inr (.inl (28, 0))), some (.inl (nI s)), some (.inl (nI p))] [] M2 Q := by
        intro p
        induction p with
        | zero =>
          intro o M2 hp fr2 hf hlt hod
          refine am_go hX [36] 40 ?_
          refine ⟨fun _ => ?_, fun (q : ¬ nI 0 ≤ 0) => absurd (by decide) q⟩
          exact fin 0 (fun i => if i = 0 then s else o i) M2 hp fr2 (fun i hi hne => by rw [if_neg hne]; exact hf i hi hne) (if_pos rfl) (fun i hi => by rw [hod i hi, od_in])
        | succ p ihp =>
          intro o M2 hp fr2 hf hlt hod
          have hop : o p < s := hlt p (by omega)
          have ep : M2.1 42 0 p = nI (o p) := hf p (by omega) (by omega)
          have m1 : M2.1 32 0 (o p) = nI (ta_mo τ (o p)) := (fr2.2 32 0 _ (by simp)).trans (r3 (o p) (by omega)).2.1
          have m2 : M2.1 32 0 s = nI (ta_mo τ s) := (fr2.2 32 0 _ (by simp)).trans (r3 s hsn).2.1
          have b1 := (hτ.2.2.1 (o p) (by omega)).2.1
          have b2 := (hτ.2.2.1 s hsn).2.1
          refine am_go hX [8, 36] 40 ?_
          refine ⟨fun (q : nI (p + 1) ≤ 0) => absurd q (nI_nle (by omega) (by omega)), fun _ => ?_⟩
          refine ⟨p, by show p < 12; omega, nI_pred p, o p, by show o p < 12; omega, ep, s, by show s < 12; omega, rfl, fun (q : M2.1 32 0 (o p) ≤ M2.1 32 0 s) => ?_, fun (q : ¬ M2.1 32 0 (o p) ≤ M2.1 32 0 s) => ?_⟩
          · rw [m1, m2] at q
            have q := (nI_leI (by omega) (by omega)).mp q
            exact fin (p + 1) (fun i => if i = p + 1 then s else o i) M2 hp fr2 (fun i hi hne => by rw [if_neg hne]; exact hf i hi hne) (if_pos rfl) (fun i hi => by rw [hod i hi, od_in, if_neg (by omega)])
          · rw [m1, m2] at q
            have q : ta_mo τ s < ta_mo τ (o p) := by
              rcases Nat.lt_or_ge (ta_mo τ s) (ta_mo τ (o p)) with w | w
              · exact w
              · exact absurd (nI_le w (by omega)) q
            refine ⟨p, by show p < 12; omega, nI_pred p, p + 1, by show p + 1 < 12; omega, rfl, ?_⟩
            refine (fun (w : X d 93 8 [some (.inr (.inl (28, 0))), some (.inl (nI s)), some (.inl (nI (p + 1) + (-1)))] [] (am_si M2 42 0 (p + 1) (M2.1 42 0 p)) Q) => w) ?_
            rw [pk_m1, ep]
            refine ihp (fun i => if i = p + 1 then o p else o i) _ (by omega) (am_fr_si fr2 (by simp)) (fun i hi hne => ?_) (fun i hi => by rw [if_neg (by omega)]; exact hlt i (by omega)) (fun i hi => by rw [hod i hi, od_in, if_pos q])
            rw [am_si_at]
            by_cases c : i = p + 1
            · rw [if_pos ⟨rfl, rfl, c⟩, if_pos c]
            · rw [if_neg (fun w => c w.2.2), if_neg c]; exact hf i hi c
      refine am_go hX [8] 40 ?_
      refine ⟨fun (q : M'.1 28 0 1 ≤ nI s) => absurd q (by rw [e]; exact nI_ge hsn (by omega)), fun _ => ?_⟩
      exact inner s (od_k (ta_mo τ) s) M' (Nat.le_refl s) fr (fun i hi hne => ho i (by omega)) (fun i hi => (od_facts (ta_mo τ) s).1 i hi) (fun i hi => rfl)
  exact outer (ta_n τ) 0 (by omega) M (am_fr_rf _ M) (fun i hi => by omega) _
/-- the reference's reckoned part; behind a renew -/
def rm_D (M : am_M) (τ : ta) : Prop := (∀ i, i < ta_n τ → M.1 42 0 i = nI (od τ i)) ∧ rm_K M τ (fun s => s < ta_n τ) (ta_n τ) (wds τ)
def rm_F (M M' : am_M) : Prop := am_fr [28, 42, 43, 44, 45, 46, 47, 48, 49, 50, 51, 52, 53, 54, 55, 56, 57, 58] M M' ∧ ∀ k, k ∉ [16, 18, 19, 33] → M'.1 28 0 k = M.1 28 0 k
theorem rm_T_F {M M' : am_M} {τ : ta} (h : rm_T M τ) (fr : rm_F M M') : rm_T M' τ := rm_T_fr' h (am_fg_of fr.1 []) (fr.2 1 (by simp)) (by simp)
theorem rm_F_tr {M M' M'' : am_M} (h : rm_F M M') (h' : rm_F M' M'') : rm_F M M'' := ⟨am_fr_tr h.1 h'.1, fun k hk => (h'.2 k hk).trans (h.2 k hk)⟩
theorem rm_K_P {M : am_M} {τ : ta} {P P' : Nat → Prop} {m : Nat} {ws : List wd} (h : rm_K M τ P m ws) (hP : ∀ s, P' s → P s) : rm_K M τ P' m ws := by
  obtain ⟨q1, q2, b, q3, q4, q5⟩ := h
  exact ⟨q1, q2, b, q3, q4, fun i hi => ⟨⟨(q5 i hi).1.1, (q5 i hi).1.2.1, (q5 i hi).1.2.2.1, fun s e hs he => (q5 i hi).1.2.2.2 s e (hP s hs) he⟩, (q5 i hi).2⟩⟩
set_option maxHeartbeats 1000000 in
theorem cm_renew {X : am_X} (hX : am_Cl X) (d : Nat) (M : am_M) (hd : 4 ≤ d) (τ : ta) (hτ : ta_ok τ) (hT : rm_T M τ) (hE : rm_E M) (hD : M.1 28 0 16 = 0 → rm_D M τ) (Q : am_P)
    (h : ∀ M', rm_F M M' → rm_D M' τ → rm_E M' → M'.1 28 0 16 = 0 → Q none M') : X d 107 0 [some (.inr (.inl (28, 0))), none] [] M Q := by
  have hn12 := hτ.1
  refine am_go hX [27] 60 ?_
  refine ⟨fun _ => ?_, fun (q : ¬ ¬ M.1 28 0 16 = 0) => h M ⟨am_fr_rf _ _, fun _ _ => rfl⟩ (hD (Classical.not_not.mp q)) hE (Classical.not_not.mp q)⟩
  have F1 : rm_F M (am_si M 28 0 16 0) := ⟨am_fr_si (am_fr_rf _ _) (by simp), fun k hk => by rw [am_si_at, if_neg (fun z => hk (by rw [z.2.2]; simp))]⟩
  refine ⟨Or.inl rfl, am_cc (by omega) (cm_sort hX _ _ τ hτ (rm_T_F hT F1) _ (fun M2 fr2 ho2 => ?_))⟩
  refine ⟨0, by show 0 < 8; omega, rfl, 0, by show 0 < 8; omega, rfl, ?_⟩
  refine (fun (z : X d 107 27 [some (.inr (.inl (28, 0))), some (.inl (nI 0))] [] (am_si (am_si (am_si (am_si M2 28 0 18 1) 28 0 19 0) 43 0 0 0) 44 0 0 0) Q) => z) ?_
  generalize hM4 : am_si (am_si (am_si (am_si M2 28 0 18 1) 28 0 19 0) 43 0 0 0) 44 0 0 0 = M4
  have F4 : rm_F M M4 := by
    rw [← hM4]
    refine ⟨am_fr_si (am_fr_si (am_fr_si (am_fr_si (am_fr_tr F1.1 (am_fr_mono fr2 (by simp))) (by simp)) (by simp)) (by simp)) (by simp), fun k hk => ?_⟩
    simp at hk
    rw [am_si_at, if_neg (by omega), am_si_at, if_neg (by omega), am_si_at, if_neg (by omega), am_si_at, if_neg (by omega), fr2.2 28 0 k (by simp)]
    exact F1.2 k (by simp; omega)
  have h16 : M4.1 28 0 16 = 0 := by
    rw [← hM4, am_si_at, if_neg (by omega), am_si_at, if_neg (by omega), am_si_at, if_neg (by omega), am_si_at, if_neg (by omega), fr2.2 28 0 16 (by simp), am_si_at, if_pos ⟨rfl, rfl, rfl⟩]
  have ho4 : ∀ i, i < ta_n τ → M4.1 42 0 i = nI (od τ i) := fun i hi => by
    rw [← hM4, am_si_at, if_neg (by omega), am_si_at, if_neg (by omega), am_si_at, if_neg (by omega), am_si_at, if_neg (by omega)]; exact ho2 i hi
  have hE4 : rm_E M4 := fun k hk => by
    rw [← hM4, am_si_at, if_neg (by omega), am_si_at, if_neg (by omega), am_si_at, if_neg (by omega), am_si_at, if_neg (by omega), fr2.2 54 0 k (by simp), am_si_at, if_neg (by omega)]; exact hE k hk
  have hod := (od_facts (ta_mo τ) (ta_n τ)).1
  have loop : ∀ t i : Nat, i + t = ta_n τ → ∀ M' : am_M, rm_F M M' → M'.1 28 0 16 = 0 → (∀ i, i < ta_n τ → M'.1 42 0 i = nI (od τ i)) → rm_K M' τ (fun s => ∃ i', i' < i ∧ od τ i' = s) i (wd_k τ i) → rm_E M' → X d 107 27 [some (.inr (.inl (28, 0))), some (.inl (nI i))] [] M' Q := by
    intro t
    induction t with
    | zero =>
      intro i hi M' F hc ho hK hE'
      have hi : i = ta_n τ := by omega
      subst hi
      have e := (rm_T_F hT F).1
      refine am_go hX [27] 40 ?_
      refine ⟨fun _ => h M' F ⟨ho, rm_K_P hK (fun s hs => (od_facts (ta_mo τ) (ta_n τ)).2.2 s hs)⟩ hE' hc, fun (q : ¬ M'.1 28 0 1 ≤ nI (ta_n τ)) => absurd (by rw [e]; exact nI_le (Nat.le_refl _) (by omega)) q⟩
    | succ t ih =>
      intro i hi M' F hc ho hK hE'
      have hT' := rm_T_F hT F
      have e := hT'.1
      have hin : i < ta_n τ := by omega
      refine am_go hX [27] 40 ?_
      refine ⟨fun (q : M'.1 28 0 1 ≤ nI i) => absurd q (by rw [e]; exact nI_ge hin (by omega)), fun _ => ?_⟩
      refine ⟨i, by show i < 12; omega, rfl, am_cc (by omega) ?_⟩
      refine (fun (z : X (d - 1) 106 0 [some (.inr (.inl (28, 0))), some (.inl (M'.1 42 0 i)), none, none, none, none, none] [] M' _) => z) ?_
      rw [ho i hin]
      refine cm_takeScan hX _ _ (by omega) τ hτ hT' hE' (od τ i) (hod i hin) _ (fun s hs => by obtain ⟨i', h1, rfl⟩ := hs; exact hod i' (by omega)) i (by omega) (wd_k τ i) hK _ (fun M5 fr5 h285 hK5 hE5 => ?_)
      refine (fun (z : X d 107 27 [some (.inr (.inl (28, 0))), some (.inl (nI i + 1))] [] M5 Q) => z) ?_
      rw [nI_1]
      refine ih (i + 1) (by omega) M5 (rm_F_tr F ⟨am_fr_mono fr5 (by simp), fun k hk => by simp at hk; exact h285 k (by omega) (by omega) (by omega)⟩) ((h285 16 (by omega) (by omega) (by omega)).trans hc) (fun i' hi' => (fr5.2 42 0 i' (by simp)).trans (ho i' hi')) (rm_K_P hK5 (fun s hs => ?_)) hE5
      obtain ⟨i', h1, h2⟩ := hs
      by_cases z : i' = i
      · exact Or.inl (by rw [← h2, z])
      · exact Or.inr ⟨i', by omega, h2⟩
  refine loop (ta_n τ) 0 (by omega) M4 F4 h16 ho4 ⟨?_, (by decide : 1 ≤ 4), 0, Or.inl rfl, ?_, fun i hi => ?_⟩ hE4
  · rw [← hM4, am_si_at, if_neg (by omega), am_si_at, if_neg (by omega), am_si_at, if_neg (by omega), am_si_at, if_pos ⟨rfl, rfl, rfl⟩]; rfl
  · rw [← hM4, am_si_at, if_neg (by omega), am_si_at, if_neg (by omega), am_si_at, if_pos ⟨rfl, rfl, rfl⟩]; rfl
  · have hi : i < 1 := hi
    have hi0 : i = 0 := by omega
    subst hi0
    refine ⟨⟨?_, ?_, fun k hk => ?_, fun s e hs => ?_⟩, by show 0 ≤ 6; omega, by show 0 ≤ _; omega, fun k hk => ?_⟩
    · rw [← hM4, am_si_at, if_neg (by omega), am_si_at, if_pos ⟨rfl, rfl, rfl⟩]; rfl
    · rw [← hM4, am_si_at, if_pos ⟨rfl, rfl, rfl⟩]; rfl
    · exact absurd hk (Nat.not_lt_zero k)
    · obtain ⟨i', h1, -⟩ := hs; omega
    · exact absurd hk (Nat.not_lt_zero k)
end
section
/-! QUESTIONS. An index among n; fresh states; small questions -/
def ix (w : Int32) (n : Nat) : Option Nat := if 0 ≤ w.toInt ∧ w.toInt < n then some w.toInt.toNat else none
theorem ix_y {w : Int32} {n : Nat} (hn : n < 2 ^ 30) (h0 : 0 ≤ w) (h1 : w < nI n) : ∃ k, k < n ∧ w = nI k ∧ ix w n = some k := by
  rw [Int32.le_iff_toInt_le, Int32.toInt_zero] at h0
  rw [Int32.lt_iff_toInt_lt, nI_toInt (by omega)] at h1
  refine ⟨w.toInt.toNat, by omega, iz_nI (by omega) (by omega), ?_⟩
  unfold ix; rw [if_pos ⟨h0, h1⟩]
theorem ix_n {w : Int32} {n : Nat} (hn : n < 2 ^ 30) (h : ¬ (0 ≤ w ∧ w < nI n)) : ix w n = none := by
  unfold ix
  rw [if_neg]
  intro z
  apply h
  rw [Int32.le_iff_toInt_le, Int32.toInt_zero, Int32.lt_iff_toInt_lt, nI_toInt (by omega)]
  exact z
theorem ix_lt {w : Int32} {n : Nat} (hn : n < 2 ^ 30) : w ≤ nI n - 1 ↔ w < nI n := by
  have e : (nI n - 1).toInt = (n : Int) - 1 := by
    have h1 : (1 : Int32).toInt = 1 := by decide
    rw [iz_sub (by rw [nI_toInt (by omega), h1]; omega) (by rw [nI_toInt (by omega), h1]; omega), nI_toInt (by omega), h1]
  rw [Int32.le_iff_toInt_le, e, Int32.lt_iff_toInt_lt, nI_toInt (by omega)]; omega
theorem ix_of {k n : Nat} (h : k < n) (hn : n < 2 ^ 30) : ix (nI k) n = some k := by
  unfold ix
  rw [nI_toInt (by omega), if_pos ⟨by omega, by omega⟩, Int.toNat_natCast]
/-- the worlds kept are well made -/
theorem wd_k_ok {τ : ta} (hτ : ta_ok τ) : ∀ i, i ≤ ta_n τ → 1 ≤ (wd_k τ i).length ∧ (wd_k τ i).length ≤ 4 ∧ ∀ j, j < (wd_k τ i).length → wd_ok i (am_nth (wd_k τ i) j wd_0)
  | 0, _ => ⟨Nat.le_refl 1, (by decide : 1 ≤ 4), fun j hj => by
      have hj : j < 1 := hj
      have : j = 0 := by omega
      subst this
      exact ⟨by show 0 ≤ 6; omega, by show 0 ≤ _; omega, fun k hk => absurd hk (Nat.not_lt_zero k)⟩⟩
  | i + 1, hi => by
    obtain ⟨h1, h2, h3⟩ := wd_k_ok hτ i (by omega)
    have hs := (od_facts (ta_mo τ) (ta_n τ)).1 i (by omega)
    have hb := jn_best_ok hτ (s := od τ i) hs h3
    have hst := wd_step_ok hτ (s := od τ i) hs h3
    have hK := hτ.2.2.2.2.2.2.2.2.2
    show 1 ≤ (wd_step τ (od τ i) (wd_k τ i)).length ∧ _ ∧ ∀ j, j < (wd_step τ (od τ i) (wd_k τ i)).length → wd_ok (i + 1) (am_nth (wd_step τ (od τ i) (wd_k τ i)) j wd_0)
    rw [hst.1]
    exact ⟨hb.2.1 h1, by show (wd_step τ (od τ i) (wd_k τ i)).length ≤ 4; rw [hst.1]; have := hb.1; omega, fun j hj => (hst.2 j hj).2⟩
theorem wds_ok {τ : ta} (hτ : ta_ok τ) : 1 ≤ (wds τ).length ∧ (wds τ).length ≤ 4 ∧ ∀ j, j < (wds τ).length → wd_ok (ta_n τ) (am_nth (wds τ) j wd_0) := wd_k_ok hτ _ (Nat.le_refl _)
/-- the class's state, and one just made anew; the reference's -/
def cC (M : am_M) (τ : ta) : Prop := rc_T M τ ∧ rc_S M ∧ (M.2.1 8 0 < 2 ∧ M.2.1 8 2 = 1 - M.2.1 8 0) ∧ (M.1 1 0 0 = 0 → rc_D M τ)
def cR (M : am_M) (τ : ta) : Prop := rc_T M τ ∧ rc_S M ∧ rc_D M τ
theorem cR_C {M : am_M} {τ : ta} (h : cR M τ) : cC M τ := ⟨h.1, h.2.1, ⟨h.2.2.2.2.2.1, h.2.2.2.2.2.2.1⟩, fun _ => h.2.2⟩
def mC (M : am_M) (τ : ta) : Prop := rm_T M τ ∧ rm_E M ∧ (M.1 28 0 16 = 0 → rm_D M τ)
def mR (M : am_M) (τ : ta) : Prop := rm_T M τ ∧ rm_E M ∧ rm_D M τ
theorem mR_C {M : am_M} {τ : ta} (h : mR M τ) : mC M τ := ⟨h.1, h.2.1, fun _ => h.2.2⟩
theorem rm_F_rf (M : am_M) : rm_F M M := ⟨am_fr_rf _ _, fun _ _ => rfl⟩
theorem cw_fresh {X : am_X} (hX : am_Cl X) (d : Nat) (M : am_M) (hd : 9 ≤ d) (τ : ta) (hτ : ta_ok τ) (hC : cC M τ) (Q : am_P) (h : ∀ M', rc_F M M' → cR M' τ → Q none M') : X d 42 0 [some (.inr (.inl (8, 0))), some (.inr (.inl (1, 0))), none] [] M Q :=
  cw_refresh hX d M hd τ hτ hC.1 hC.2.1 hC.2.2.1 hC.2.2.2 Q (fun M' F D S _ => h M' F ⟨rc_T_F hC.1 F, S, D⟩)
theorem cm_fresh {X : am_X} (hX : am_Cl X) (d : Nat) (M : am_M) (hd : 4 ≤ d) (τ : ta) (hτ : ta_ok τ) (hC : mC M τ) (Q : am_P) (h : ∀ M', rm_F M M' → mR M' τ → Q none M') : X d 107 0 [some (.inr (.inl (28, 0))), none] [] M Q :=
  cm_renew hX d M hd τ hτ hC.1 hC.2.1 hC.2.2 Q (fun M' F D E _ => h M' F ⟨rm_T_F hC.1 F, E, D⟩)
/-- a world's cells in a fresh state -/
theorem cR_W {M : am_M} {τ : ta} (h : cR M τ) {i : Nat} (hi : i < (wds τ).length) : rc_W M τ (fun s => s < ta_n τ) (4 * M.2.1 8 0 + i) (am_nth (wds τ) i wd_0) := (h.2.2.2.2.2.2.2 i hi).1
theorem mR_W {M : am_M} {τ : ta} (h : mR M τ) : ∃ b, (b = 0 ∨ b = 4) ∧ M.1 28 0 19 = nI b ∧ ∀ i, i < (wds τ).length → rm_W M τ (fun s => s < ta_n τ) (b + i) (am_nth (wds τ) i wd_0) := by
  obtain ⟨-, -, b, h1, h2, h3⟩ := h.2.2.2
  exact ⟨b, h1, h2, fun i hi => (h3 i hi).1⟩
theorem cw_isWorld {X : am_X} (hX : am_Cl X) (d : Nat) (M : am_M) (τ : ta) (hτ : ta_ok τ) (hR : cR M τ) (w : Int32) (Q : am_P) (h1 : ∀ k, k < (wds τ).length → w = nI k → ix w (wds τ).length = some k → Q (some (.inl (1))) M) (h0 : ix w (wds τ).length = none → Q (some (.inl (0))) M) : X d 44 0 [some (.inr (.inl (8, 0))), some (.inl (w))] [] M Q := by
  have hl := (wds_ok hτ).2.1
  have e : M.1 8 0 1 = nI (wds τ).length := hR.2.2.2.1
  refine am_go hX [] 20 ?_
  refine ⟨fun (q : w < 0) => ⟨Or.inl rfl, h0 (ix_n (by omega) (fun z => Int32.not_le.mpr q z.1))⟩, fun (q : ¬ w < 0) => ⟨fun (q2 : M.1 8 0 1 ≤ w) => ⟨Or.inl rfl, h0 (ix_n (by omega) (fun z => ?_))⟩, fun (q2 : ¬ M.1 8 0 1 ≤ w) => ⟨Or.inr rfl, ?_⟩⟩⟩
  · rw [e] at q2; exact Int32.not_lt.mpr q2 z.2
  · rw [e] at q2
    obtain ⟨k, k1, k2, k3⟩ := ix_y (by omega) (Int32.not_lt.mp q) (Int32.not_le.mp q2)
    exact h1 k k1 k2 k3
theorem cw_isTrack {X : am_X} (hX : am_Cl X) (d : Nat) (M : am_M) (hd : 1 ≤ d) (τ : ta) (hτ : ta_ok τ) (hR : cR M τ) (w t : Int32) (Q : am_P) (h1 : ∀ a b, a < (wds τ).length → b < wd_n (am_nth (wds τ) a wd_0) → w = nI a → t = nI b → ix w (wds τ).length = some a → ix t (wd_n (am_nth (wds τ) a wd_0)) = some b → Q (some (.inl (1))) M)
    (h0 : (∀ a, ix w (wds τ).length = some a → ix t (wd_n (am_nth (wds τ) a wd_0)) = none) → Q (some (.inl (0))) M) : X d 45 0 [some (.inr (.inl (8, 0))), some (.inl (w)), some (.inl (t))] [] M Q := by
  have hl := (wds_ok hτ).2.1
  refine am_go hX [] 20 ?_
  refine am_cc hd (cw_isWorld hX _ _ τ hτ hR w _ (fun a a1 a2 a3 => ?_) (fun a3 => ?_))
  · have e : M.1 24 (4 * M.2.1 8 0 + a) 1 = nI (wd_n (am_nth (wds τ) a wd_0)) := (cR_W hR a1).2.1
    have h6 := ((wds_ok hτ).2.2 a a1).1
    refine am_beq1 ⟨fun (q : t < 0) => ⟨Or.inl rfl, h0 (fun a' z => ?_)⟩, fun (q : ¬ t < 0) => ⟨a, by show a < 4; omega, a2, fun (q2 : M.1 24 (4 * M.2.1 8 0 + a) 1 ≤ t) => ⟨Or.inl rfl, h0 (fun a' z => ?_)⟩, fun (q2 : ¬ M.1 24 (4 * M.2.1 8 0 + a) 1 ≤ t) => ⟨Or.inr rfl, ?_⟩⟩⟩
    · rw [a3] at z; cases z; exact ix_n (by omega) (fun z => Int32.not_le.mpr q z.1)
    · rw [a3] at z; cases z; rw [e] at q2; exact ix_n (by omega) (fun z => Int32.not_lt.mpr q2 z.2)
    · rw [e] at q2
      obtain ⟨k, k1, k2, k3⟩ := ix_y (by omega) (Int32.not_lt.mp q) (Int32.not_le.mp q2)
      exact h1 a k a1 k1 a2 k2 a3 k3
  · exact am_beq0 ⟨Or.inl rfl, h0 (fun a z => by rw [a3] at z; cases z)⟩
theorem cw_isDot {X : am_X} (hX : am_Cl X) (d : Nat) (M : am_M) (hd : 1 ≤ d) (τ : ta) (hτ : ta_ok τ) (hT : rc_T M τ) (s e : Int32) (Q : am_P) (h1 : ∀ a b, a < ta_n τ → b < ta_dn τ a → s = nI a → e = nI b → ix s (ta_n τ) = some a → ix e (ta_dn τ a) = some b → Q (some (.inl (1))) M)
    (h0 : (∀ a, ix s (ta_n τ) = some a → ix e (ta_dn τ a) = none) → Q (some (.inl (0))) M) : X d 34 0 [some (.inr (.inl (1, 0))), some (.inl (s)), some (.inl (e))] [] M Q := by
  have hn := hτ.1
  refine am_go hX [] 20 ?_
  refine am_cc hd (cw_isScan hX _ _ s _ (fun q1 q2 => ?_) (fun q => ?_))
  · rw [hT.1] at q2
    obtain ⟨a, a1, a2, a3⟩ := ix_y (by omega) q1 q2
    have e2 : M.1 18 (M.2.1 4 a) 2 = nI (ta_dn τ a) := (hT.2.2.2.2.1 a a1).2.2.1
    have h4 := (hτ.2.2.1 a a1).2.2.1
    refine am_beq1 ⟨fun (q : e < 0) => ⟨Or.inl rfl, h0 (fun a' z => ?_)⟩, fun (q : ¬ e < 0) => ⟨a, by show a < 13; omega, a2, fun (q2 : M.1 18 (M.2.1 4 a) 2 ≤ e) => ⟨Or.inl rfl, h0 (fun a' z => ?_)⟩, fun (q2 : ¬ M.1 18 (M.2.1 4 a) 2 ≤ e) => ⟨Or.inr rfl, ?_⟩⟩⟩
    · rw [a3] at z; cases z; exact ix_n (by omega) (fun z => Int32.not_le.mpr q z.1)
    · rw [a3] at z; cases z; rw [e2] at q2; exact ix_n (by omega) (fun z => Int32.not_lt.mpr q2 z.2)
    · rw [e2] at q2
      obtain ⟨k, k1, k2, k3⟩ := ix_y (by omega) (Int32.not_lt.mp q) (Int32.not_le.mp q2)
      exact h1 a k a1 k1 a2 k2 a3 k3
  · rw [hT.1] at q
    exact am_beq0 ⟨Or.inl rfl, h0 (fun a z => by rw [ix_n (by omega) q] at z; cases z)⟩
theorem cm_isWorld {X : am_X} (hX : am_Cl X) (d : Nat) (M : am_M) (hd : 5 ≤ d) (τ : ta) (hτ : ta_ok τ) (hC : mC M τ) (w : Int32) (Q : am_P) (h1 : ∀ M', rm_F M M' → mR M' τ → ∀ k, k < (wds τ).length → w = nI k → ix w (wds τ).length = some k → Q (some (.inl (1))) M') (h0 : ∀ M', rm_F M M' → mR M' τ → ix w (wds τ).length = none → Q (some (.inl (0))) M') : X d 108 0 [some (.inr (.inl (28, 0))), some (.inl (w))] [] M Q := by
  have hl := (wds_ok hτ).2.1
  refine am_go hX [] 20 ?_
  refine am_cc (by omega) (cm_fresh hX _ _ (by omega) τ hτ hC _ (fun M' F R => ?_))
  have e : M'.1 28 0 18 = nI (wds τ).length := R.2.2.2.1
  refine am_cc (by omega) ?_
  refine (fun (z : X (d - 1) 82 0 [some (.inr (.inl (28, 0))), some (.inl (w)), some (.inl (0)), some (.inl (M'.1 28 0 18 - 1))] [] M' _) => z) ?_
  rw [e]
  refine cm_in hX _ _ _ _ _ _ (fun q1 q2 => ⟨Or.inr rfl, ?_⟩) (fun q => ⟨Or.inl rfl, ?_⟩)
  · rw [ix_lt (by omega)] at q2
    obtain ⟨k, k1, k2, k3⟩ := ix_y (by omega) q1 q2
    exact h1 M' F R k k1 k2 k3
  · rw [ix_lt (by omega)] at q
    exact h0 M' F R (ix_n (by omega) q)
theorem cm_isTrack {X : am_X} (hX : am_Cl X) (d : Nat) (M : am_M) (hd : 6 ≤ d) (τ : ta) (hτ : ta_ok τ) (hC : mC M τ) (w t : Int32) (Q : am_P) (h1 : ∀ M', rm_F M M' → mR M' τ → ∀ a b, a < (wds τ).length → b < wd_n (am_nth (wds τ) a wd_0) → w = nI a → t = nI b → ix w (wds τ).length = some a → ix t (wd_n (am_nth (wds τ) a wd_0)) = some b → Q (some (.inl (1))) M')
    (h0 : ∀ M', rm_F M M' → mR M' τ → (∀ a, ix w (wds τ).length = some a → ix t (wd_n (am_nth (wds τ) a wd_0)) = none) → Q (some (.inl (0))) M') : X d 109 0 [some (.inr (.inl (28, 0))), some (.inl (w)), some (.inl (t))] [] M Q := by
  have hl := (wds_ok hτ).2.1
  refine am_go hX [] 20 ?_
  refine am_cc (by omega) (cm_isWorld hX _ _ (by omega) τ hτ hC w _ (fun M' F R a a1 a2 a3 => ?_) (fun M' F R a3 => ?_))
  · obtain ⟨b, hb, e19, hW⟩ := mR_W R
    have e : M'.1 44 0 (b + a) = nI (wd_n (am_nth (wds τ) a wd_0)) := (hW a a1).2.1
    have h6 := ((wds_ok hτ).2.2 a a1).1
    refine am_beq1 ⟨b + a, by show b + a < 8; omega, ?_, am_cc (by omega) ?_⟩
    · show M'.1 28 0 19 + w = _
      rw [e19, a2, nI_add]
    refine (fun (z : X (d - 1) 82 0 [some (.inr (.inl (28, 0))), some (.inl (t)), some (.inl (0)), some (.inl (M'.1 44 0 (b + a) - 1))] [] M' _) => z) ?_
    rw [e]
    refine cm_in hX _ _ _ _ _ _ (fun q1 q2 => am_beq1 ⟨Or.inr rfl, ?_⟩) (fun q => am_beq0 ⟨Or.inl rfl, h0 M' F R (fun a' z => ?_)⟩)
    · rw [ix_lt (by omega)] at q2
      obtain ⟨k, k1, k2, k3⟩ := ix_y (by omega) q1 q2
      exact h1 M' F R a k a1 k1 a2 k2 a3 k3
    · rw [ix_lt (by omega)] at q
      rw [a3] at z; cases z; exact ix_n (by omega) q
  · exact am_beq0 ⟨Or.inl rfl, h0 M' F R (fun a z => by rw [a3] at z; cases z)⟩
theorem cm_isDot {X : am_X} (hX : am_Cl X) (d : Nat) (M : am_M) (hd : 2 ≤ d) (τ : ta) (hτ : ta_ok τ) (hT : rm_T M τ) (s e : Int32) (Q : am_P) (h1 : ∀ a b, a < ta_n τ → b < ta_dn τ a → s = nI a → e = nI b → ix s (ta_n τ) = some a → ix e (ta_dn τ a) = some b → Q (some (.inl (1))) M)
    (h0 : (∀ a, ix s (ta_n τ) = some a → ix e (ta_dn τ a) = none) → Q (some (.inl (0))) M) : X d 85 0 [some (.inr (.inl (28, 0))), some (.inl (s)), some (.inl (e))] [] M Q := by
  have hn := hτ.1
  refine am_go hX [] 20 ?_
  refine am_cc (by omega) (cm_isScan hX _ _ (by omega) s _ (fun q1 q2 => ?_) (fun q => ?_))
  · rw [hT.1, ix_lt (by omega)] at q2
    obtain ⟨a, a1, a2, a3⟩ := ix_y (by omega) q1 q2
    have e2 : M.1 33 0 a = nI (ta_dn τ a) := (hT.2.2.1 a a1).2.2.1
    have h4 := (hτ.2.2.1 a a1).2.2.1
    refine am_beq1 ⟨a, by show a < 12; omega, a2, am_cc (by omega) ?_⟩
    refine (fun (z : X (d - 1) 82 0 [some (.inr (.inl (28, 0))), some (.inl (e)), some (.inl (0)), some (.inl (M.1 33 0 a - 1))] [] M _) => z) ?_
    rw [e2]
    refine cm_in hX _ _ _ _ _ _ (fun q1 q2 => am_beq1 ⟨Or.inr rfl, ?_⟩) (fun q => am_beq0 ⟨Or.inl rfl, h0 (fun a' z => ?_)⟩)
    · rw [ix_lt (by omega)] at q2
      obtain ⟨k, k1, k2, k3⟩ := ix_y (by omega) q1 q2
      exact h1 a k a1 k1 a2 k2 a3 k3
    · rw [ix_lt (by omega)] at q
      rw [a3] at z; cases z; exact ix_n (by omega) q
  · rw [hT.1, ix_lt (by omega)] at q
    exact am_beq0 ⟨Or.inl rfl, h0 (fun a z => by rw [ix_n (by omega) q] at z; cases z)⟩
end
section
/-! questions about one world -/
def NO : Int32 := -2147483648
def wn (τ : ta) (a : Nat) : wd := am_nth (wds τ) a wd_0
def q_cost (τ : ta) (w : Int32) : Int32 := match ix w (wds τ).length with
  | some a => nI (wd_c (wn τ a))
  | none => NO
def q_gap (τ : ta) (w : Int32) : Int32 := match ix w (wds τ).length with
  | some a => nI (wd_c (wn τ a)) - nI (wd_c (wn τ 0))
  | none => -1
def q_tracks (τ : ta) (w : Int32) : Int32 := match ix w (wds τ).length with
  | some a => nI (wd_n (wn τ a))
  | none => -1
/-- a field of a track, read -/
def tk_rd (t : Nat → Int32) (u : Int32) : Int32 :=
  if u.toInt = 0 then t 0 else if u.toInt = 1 then t 1 else if u.toInt = 2 then t 2 else if u.toInt = 3 then t 3 else if u.toInt = 4 then t 4 else if u.toInt = 5 then t 5 else if u.toInt = 6 then t 6 else if u.toInt = 7 then t 7 else
  if u.toInt = 8 then (if t 8 = 0 then 0 else 1) else if u.toInt = 9 then (if 1 < t 5 then 1 else 0) else NO
def q_tr {α : Type} (τ : ta) (w t : Int32) (no : α) (f : wd → Nat → α) : α := match ix w (wds τ).length with
  | some a => (match ix t (wd_n (wn τ a)) with
    | some b => f (wn τ a) b
    | none => no)
  | none => no
def q_track (τ : ta) (w t u : Int32) : Int32 := q_tr τ w t NO fun x b => tk_rd (wd_t x b) u
def q_dt {α : Type} (τ : ta) (s e : Int32) (no : α) (f : Nat → Nat → α) : α := match ix s (ta_n τ) with
  | some a => (match ix e (ta_dn τ a) with
    | some b => f a b
    | none => no)
  | none => no
def q_account (τ : ta) (w s e : Int32) : Int32 := match ix w (wds τ).length with
  | some a => q_dt τ s e (-2) fun s e => wd_a (wn τ a) s e
  | none => -2
def q_ordered (τ : ta) (i : Int32) : Int32 := match ix i (ta_n τ) with
  | some k => nI (od τ k)
  | none => -1
theorem q_tr_no {α : Type} {τ : ta} {w t : Int32} {no : α} {f : wd → Nat → α} (h : ∀ a, ix w (wds τ).length = some a → ix t (wd_n (am_nth (wds τ) a wd_0)) = none) : q_tr τ w t no f = no := by
  unfold q_tr wn
  cases e : ix w (wds τ).length with
  | none => rfl
  | some a => dsimp only; rw [h a e]
theorem q_tr_at {α : Type} {τ : ta} {w t : Int32} {no : α} {f : wd → Nat → α} {a b : Nat} (h1 : ix w (wds τ).length = some a) (h2 : ix t (wd_n (am_nth (wds τ) a wd_0)) = some b) : q_tr τ w t no f = f (am_nth (wds τ) a wd_0) b := by
  unfold q_tr wn; rw [h1]; dsimp only; rw [h2]
theorem q_dt_no {α : Type} {τ : ta} {s e : Int32} {no : α} {f : Nat → Nat → α} (h : ∀ a, ix s (ta_n τ) = some a → ix e (ta_dn τ a) = none) : q_dt τ s e no f = no := by
  unfold q_dt
  cases z : ix s (ta_n τ) with
  | none => rfl
  | some a => dsimp only; rw [h a z]
theorem q_dt_at {α : Type} {τ : ta} {s e : Int32} {no : α} {f : Nat → Nat → α} {a b : Nat} (h1 : ix s (ta_n τ) = some a) (h2 : ix e (ta_dn τ a) = some b) : q_dt τ s e no f = f a b := by
  unfold q_dt; rw [h1]; dsimp only; rw [h2]
theorem cw_worlds {X : am_X} (hX : am_Cl X) (d : Nat) (M : am_M) (hd : 10 ≤ d) (τ : ta) (hτ : ta_ok τ) (hC : cC M τ) (Q : am_P) (h : ∀ M', rc_F M M' → cC M' τ → Q (some (.inl (nI (wds τ).length))) M') : X d 7 0 [some (.inr (.inl (0, 0)))] [] M Q := by
  refine am_go hX [] 20 ?_
  refine am_cc (by omega) (cw_fresh hX _ _ (by omega) τ hτ hC _ (fun M' F R => ?_))
  have := h M' F (cR_C R)
  refine (fun (z : Q (some (.inl (M'.1 8 0 1))) M') => z) ?_
  rw [show M'.1 8 0 1 = nI (wds τ).length from R.2.2.2.1]; exact this
theorem cw_cost {X : am_X} (hX : am_Cl X) (d : Nat) (M : am_M) (hd : 10 ≤ d) (τ : ta) (hτ : ta_ok τ) (hC : cC M τ) (w : Int32) (Q : am_P) (h : ∀ M', rc_F M M' → cC M' τ → Q (some (.inl (q_cost τ w))) M') : X d 8 0 [some (.inr (.inl (0, 0))), some (.inl (w))] [] M Q := by
  have hl := (wds_ok hτ).2.1
  refine am_go hX [] 30 ?_
  refine am_cc (by omega) (cw_fresh hX _ _ (by omega) τ hτ hC _ (fun M' F R => ?_))
  have := h M' F (cR_C R)
  unfold q_cost at this
  refine am_cc (by omega) (cw_isWorld hX _ _ τ hτ R w _ (fun a a1 a2 a3 => ?_) (fun a3 => ?_))
  · refine am_beq1 ⟨a, by show a < 4; omega, a2, ?_⟩
    refine (fun (z : Q (some (.inl (M'.1 24 (4 * M'.2.1 8 0 + a) 0))) M') => z) ?_
    rw [(cR_W R a1).1]
    rw [a3] at this; exact this
  · refine am_beq0 ?_
    rw [a3] at this; exact this
theorem cw_gap {X : am_X} (hX : am_Cl X) (d : Nat) (M : am_M) (hd : 10 ≤ d) (τ : ta) (hτ : ta_ok τ) (hC : cC M τ) (w : Int32) (Q : am_P) (h : ∀ M', rc_F M M' → cC M' τ → Q (some (.inl (q_gap τ w))) M') : X d 9 0 [some (.inr (.inl (0, 0))), some (.inl (w))] [] M Q := by
  have hl := (wds_ok hτ).2.1
  refine am_go hX [] 40 ?_
  refine am_cc (by omega) (cw_fresh hX _ _ (by omega) τ hτ hC _ (fun M' F R => ?_))
  have := h M' F (cR_C R)
  unfold q_gap at this
  refine am_cc (by omega) (cw_isWorld hX _ _ τ hτ R w _ (fun a a1 a2 a3 => ?_) (fun a3 => ?_))
  · refine am_beq1 ⟨a, by show a < 4; omega, a2, 0, by show 0 < 4; omega, rfl, ?_⟩
    refine (fun (z : Q (some (.inl (M'.1 24 (4 * M'.2.1 8 0 + a) 0 - M'.1 24 (4 * M'.2.1 8 0 + 0) 0))) M') => z) ?_
    rw [(cR_W R a1).1, (cR_W R (i := 0) (by omega)).1]
    rw [a3] at this; exact this
  · refine am_beq0 ?_
    rw [a3] at this; exact this
theorem cw_tracks {X : am_X} (hX : am_Cl X) (d : Nat) (M : am_M) (hd : 10 ≤ d) (τ : ta) (hτ : ta_ok τ) (hC : cC M τ) (w : Int32) (Q : am_P) (h : ∀ M', rc_F M M' → cC M' τ → Q (some (.inl (q_tracks τ w))) M') : X d 10 0 [some (.inr (.inl (0, 0))), some (.inl (w))] [] M Q := by
  have hl := (wds_ok hτ).2.1
  refine am_go hX [] 30 ?_
  refine am_cc (by omega) (cw_fresh hX _ _ (by omega) τ hτ hC _ (fun M' F R => ?_))
  have := h M' F (cR_C R)
  unfold q_tracks at this
  refine am_cc (by omega) (cw_isWorld hX _ _ τ hτ R w _ (fun a a1 a2 a3 => ?_) (fun a3 => ?_))
  · refine am_beq1 ⟨a, by show a < 4; omega, a2, ?_⟩
    refine (fun (z : Q (some (.inl (M'.1 24 (4 * M'.2.1 8 0 + a) 1))) M') => z) ?_
    rw [(cR_W R a1).2.1]
    rw [a3] at this; exact this
  · refine am_beq0 ?_
    rw [a3] at this; exact this
theorem iz_1lt (x : Int32) : 2 ≤ x ↔ 1 < x := by
  rw [Int32.le_iff_toInt_le, Int32.lt_iff_toInt_lt, show (2 : Int32).toInt = 2 by decide, show (1 : Int32).toInt = 1 by decide]; omega
theorem cw_read {X : am_X} (hX : am_Cl X) (d : Nat) (M : am_M) (hd : 1 ≤ d) (p : Nat) (t : Nat → Int32) (ht : ∀ j, j < 9 → M.1 27 p j = t j) (u : Int32) (Q : am_P) (h : Q (some (.inl (tk_rd t u))) M) : X d 81 0 [some (.inr (.inl (27, p))), some (.inl (u))] [] M Q := by
  unfold tk_rd at h
  refine am_go hX [] 20 ?_
  refine ⟨fun (q : u.toInt < 0 ∨ 9 < u.toInt) => ?_, fun (q : u.toInt = 0) => ?_, fun (q : u.toInt = 1) => ?_, fun (q : u.toInt = 2) => ?_, fun (q : u.toInt = 3) => ?_, fun (q : u.toInt = 4) => ?_, fun (q : u.toInt = 5) => ?_, fun (q : u.toInt = 6) => ?_, fun (q : u.toInt = 7) => ?_, fun (q : u.toInt = 8) => ?_, fun (q : u.toInt = 9) => ?_, trivial⟩
  · rw [if_neg (by omega), if_neg (by omega), if_neg (by omega), if_neg (by omega), if_neg (by omega), if_neg (by omega), if_neg (by omega), if_neg (by omega), if_neg (by omega), if_neg (by omega)] at h; exact h
  · rw [if_pos q, ← ht 0 (by omega)] at h; exact h
  · rw [if_neg (by omega), if_pos q, ← ht 1 (by omega)] at h; exact h
  · rw [if_neg (by omega), if_neg (by omega), if_pos q, ← ht 2 (by omega)] at h; exact h
  · rw [if_neg (by omega), if_neg (by omega), if_neg (by omega), if_pos q, ← ht 3 (by omega)] at h; exact h
  · rw [if_neg (by omega), if_neg (by omega), if_neg (by omega), if_neg (by omega), if_pos q, ← ht 4 (by omega)] at h; exact h
  · rw [if_neg (by omega), if_neg (by omega), if_neg (by omega), if_neg (by omega), if_neg (by omega), if_pos q, ← ht 5 (by omega)] at h; exact h
  · rw [if_neg (by omega), if_neg (by omega), if_neg (by omega), if_neg (by omega), if_neg (by omega), if_neg (by omega), if_pos q, ← ht 6 (by omega)] at h; exact h
  · rw [if_neg (by omega), if_neg (by omega), if_neg (by omega), if_neg (by omega), if_neg (by omega), if_neg (by omega), if_neg (by omega), if_pos q, ← ht 7 (by omega)] at h; exact h
  · rw [if_neg (by omega), if_neg (by omega), if_neg (by omega), if_neg (by omega), if_neg (by omega), if_neg (by omega), if_neg (by omega), if_neg (by omega), if_pos q, ← ht 8 (by omega)] at h
    refine ⟨fun (z : M.1 27 p 8 = 0) => ?_, fun (z : ¬ M.1 27 p 8 = 0) => ?_⟩
    · rw [if_pos z] at h; exact h
    · rw [if_neg z] at h; exact h
  · rw [if_neg (by omega), if_neg (by omega), if_neg (by omega), if_neg (by omega), if_neg (by omega), if_neg (by omega), if_neg (by omega), if_neg (by omega), if_neg (by omega), if_pos q, ← ht 5 (by omega)] at h
    refine am_cc hd (cw_isConfirmed hX _ _ p _ (fun z => am_beq1 ?_) (fun z => am_beq0 ?_))
    · rw [if_pos ((iz_1lt _).mp z)] at h; exact h
    · rw [if_neg (fun y => z ((iz_1lt _).mpr y))] at h; exact h
theorem cw_track {X : am_X} (hX : am_Cl X) (d : Nat) (M : am_M) (hd : 10 ≤ d) (τ : ta) (hτ : ta_ok τ) (hC : cC M τ) (w t u : Int32) (Q : am_P) (h : ∀ M', rc_F M M' → cC M' τ → Q (some (.inl (q_track τ w t u))) M') : X d 11 0 [some (.inr (.inl (0, 0))), some (.inl (w)), some (.inl (t)), some (.inl (u))] [] M Q := by
  have hl := (wds_ok hτ).2.1
  refine am_go hX [] 30 ?_
  refine am_cc (by omega) (cw_fresh hX _ _ (by omega) τ hτ hC _ (fun M' F R => ?_))
  have := h M' F (cR_C R)
  unfold q_track at this
  refine am_cc (by omega) (cw_isTrack hX _ _ (by omega) τ hτ R w t _ (fun a b a1 b1 a2 b2 a3 b3 => ?_) (fun z => ?_))
  · have h6 := ((wds_ok hτ).2.2 a a1).1
    rw [q_tr_at a3 b3] at this
    refine am_bne1 ⟨a, by show a < 4; omega, a2, b, by show b < 6; omega, b2, am_cc (by omega) ?_⟩
    exact cw_read hX _ _ (by omega) _ (wd_t (am_nth (wds τ) a wd_0) b) (fun j hj => (cR_W R a1).2.2.1 b b1 j hj) u _ this
  · rw [q_tr_no z] at this
    exact am_bne0 this
theorem cw_accountOf {X : am_X} (hX : am_Cl X) (d : Nat) (M : am_M) (p s e : Nat) (hs : s < 12) (he : e < 4) (Q : am_P) (h : Q (some (.inl (M.1 26 p (4 * s + e)))) M) : X d 66 0 [some (.inr (.inl (24, p))), some (.inl (nI s)), some (.inl (nI e))] [] M Q := by
  have ix4 : 4 * nI s + nI e = nI (4 * s + e) := by rw [show (4 : Int32) = nI 4 from rfl, pk_mul, nI_add]
  refine am_go hX [] 20 ?_
  exact ⟨4 * s + e, by show 4 * s + e < 48; omega, ix4, h⟩
theorem cw_account {X : am_X} (hX : am_Cl X) (d : Nat) (M : am_M) (hd : 10 ≤ d) (τ : ta) (hτ : ta_ok τ) (hC : cC M τ) (w s e : Int32) (Q : am_P) (h : ∀ M', rc_F M M' → cC M' τ → Q (some (.inl (q_account τ w s e))) M') : X d 12 0 [some (.inr (.inl (0, 0))), some (.inl (w)), some (.inl (s)), some (.inl (e))] [] M Q := by
  have hl := (wds_ok hτ).2.1
  have hn := hτ.1
  refine am_go hX [] 30 ?_
  refine am_cc (by omega) (cw_fresh hX _ _ (by omega) τ hτ hC _ (fun M' F R => ?_))
  have := h M' F (cR_C R)
  unfold q_account at this
  have hV := R.2.2.2.2.2.1
  refine am_cc (by omega) (cw_isWorld hX _ _ τ hτ R w _ (fun a a1 a2 a3 => am_beq1 (am_cc (by omega) ?_)) (fun a3 => am_beq0 ?_))
  · rw [a3] at this
    dsimp only at this
    refine cw_isDot hX _ _ (by omega) τ hτ R.1 s e _ (fun x y x1 y1 x2 y2 x3 y3 => ?_) (fun z => am_bne0 ?_)
    · rw [q_dt_at x3 y3] at this
      have h4 := (hτ.2.2.1 x x1).2.2.1
      refine am_bne1 ⟨a, by show a < 4; omega, a2, am_cc (by omega) ?_⟩
      rw [x2, y2]
      refine cw_accountOf hX _ _ _ x y (by omega) (by omega) _ ?_
      refine (fun (z : Q (some (.inl (M'.1 26 (4 * M'.2.1 8 0 + a) (4 * x + y)))) M') => z) ?_
      rw [(cR_W R a1).2.2.2 x y x1 y1]; exact this
    · rw [q_dt_no z] at this; exact this
  · rw [a3] at this; exact this
theorem cw_ordered {X : am_X} (hX : am_Cl X) (d : Nat) (M : am_M) (hd : 10 ≤ d) (τ : ta) (hτ : ta_ok τ) (hC : cC M τ) (i : Int32) (Q : am_P) (h : ∀ M', rc_F M M' → cC M' τ → Q (some (.inl (q_ordered τ i))) M') : X d 14 0 [some (.inr (.inl (0, 0))), some (.inl (i))] [] M Q := by
  have hn := hτ.1
  refine am_go hX [] 30 ?_
  refine am_cc (by omega) (cw_isScan hX _ _ i _ (fun q1 q2 => am_bne1 (am_cc (by omega) ?_)) (fun q => am_bne0 ?_))
  · rw [hC.1.1] at q2
    obtain ⟨k, k1, k2, k3⟩ := ix_y (by omega) q1 q2
    refine cw_fresh hX _ _ (by omega) τ hτ hC _ (fun M' F R => ?_)
    have := h M' F (cR_C R)
    unfold q_ordered at this
    rw [k3] at this
    refine ⟨k, by show k < 12; omega, k2, ?_⟩
    refine (fun (z : Q (some (.inl (M'.1 5 0 k))) M') => z) ?_
    rw [R.2.2.1 k k1]; exact this
  · rw [hC.1.1] at q
    have := h M ⟨fun _ _ _ => rfl, fun _ _ _ _ => rfl, fun _ _ => rfl⟩ hC
    unfold q_ordered at this
    rw [ix_n (by omega) q] at this; exact this
end
section
/-! questions about one world: the reference -/
theorem cm_worlds {X : am_X} (hX : am_Cl X) (d : Nat) (M : am_M) (hd : 5 ≤ d) (τ : ta) (hτ : ta_ok τ) (hC : mC M τ) (Q : am_P) (h : ∀ M', rm_F M M' → mC M' τ → Q (some (.inl (nI (wds τ).length))) M') : X d 110 0 [some (.inr (.inl (28, 0)))] [] M Q := by
  refine am_go hX [] 20 ?_
  refine am_cc (by omega) (cm_fresh hX _ _ (by omega) τ hτ hC _ (fun M' F R => ?_))
  have := h M' F (mR_C R)
  refine (fun (z : Q (some (.inl (M'.1 28 0 18))) M') => z) ?_
  rw [show M'.1 28 0 18 = nI (wds τ).length from R.2.2.2.1]; exact this
theorem cm_cost {X : am_X} (hX : am_Cl X) (d : Nat) (M : am_M) (hd : 6 ≤ d) (τ : ta) (hτ : ta_ok τ) (hC : mC M τ) (w : Int32) (Q : am_P) (h : ∀ M', rm_F M M' → mC M' τ → Q (some (.inl (q_cost τ w))) M') : X d 111 0 [some (.inr (.inl (28, 0))), some (.inl (w))] [] M Q := by
  have hl := (wds_ok hτ).2.1
  refine am_go hX [] 20 ?_
  refine am_cc (by omega) (cm_isWorld hX _ _ (by omega) τ hτ hC w _ (fun M' F R a a1 a2 a3 => am_beq1 ?_) (fun M' F R a3 => am_beq0 ?_))
  · obtain ⟨b, hb, e19, hW⟩ := mR_W R
    have := h M' F (mR_C R)
    unfold q_cost at this
    rw [a3] at this
    refine ⟨b + a, by show b + a < 8; omega, by show M'.1 28 0 19 + w = _; rw [e19, a2, nI_add], ?_⟩
    refine (fun (z : Q (some (.inl (M'.1 43 0 (b + a)))) M') => z) ?_
    rw [(hW a a1).1]; exact this
  · have := h M' F (mR_C R)
    unfold q_cost at this
    rw [a3] at this; exact this
theorem cm_gap {X : am_X} (hX : am_Cl X) (d : Nat) (M : am_M) (hd : 6 ≤ d) (τ : ta) (hτ : ta_ok τ) (hC : mC M τ) (w : Int32) (Q : am_P) (h : ∀ M', rm_F M M' → mC M' τ → Q (some (.inl (q_gap τ w))) M') : X d 112 0 [some (.inr (.inl (28, 0))), some (.inl (w))] [] M Q := by
  have hl := (wds_ok hτ).2.1
  refine am_go hX [] 30 ?_
  refine am_cc (by omega) (cm_isWorld hX _ _ (by omega) τ hτ hC w _ (fun M' F R a a1 a2 a3 => am_beq1 ?_) (fun M' F R a3 => am_beq0 ?_))
  · obtain ⟨b, hb, e19, hW⟩ := mR_W R
    have := h M' F (mR_C R)
    unfold q_gap at this
    rw [a3] at this
    refine ⟨b + a, by show b + a < 8; omega, by show M'.1 28 0 19 + w = _; rw [e19, a2, nI_add], b + 0, by show b < 8; omega, e19, ?_⟩
    refine (fun (z : Q (some (.inl (M'.1 43 0 (b + a) - M'.1 43 0 (b + 0)))) M') => z) ?_
    rw [(hW a a1).1, (hW 0 (by omega)).1]; exact this
  · have := h M' F (mR_C R)
    unfold q_gap at this
    rw [a3] at this; exact this
theorem cm_tracks {X : am_X} (hX : am_Cl X) (d : Nat) (M : am_M) (hd : 6 ≤ d) (τ : ta) (hτ : ta_ok τ) (hC : mC M τ) (w : Int32) (Q : am_P) (h : ∀ M', rm_F M M' → mC M' τ → Q (some (.inl (q_tracks τ w))) M') : X d 113 0 [some (.inr (.inl (28, 0))), some (.inl (w))] [] M Q := by
  have hl := (wds_ok hτ).2.1
  refine am_go hX [] 20 ?_
  refine am_cc (by omega) (cm_isWorld hX _ _ (by omega) τ hτ hC w _ (fun M' F R a a1 a2 a3 => am_beq1 ?_) (fun M' F R a3 => am_beq0 ?_))
  · obtain ⟨b, hb, e19, hW⟩ := mR_W R
    have := h M' F (mR_C R)
    unfold q_tracks at this
    rw [a3] at this
    refine ⟨b + a, by show b + a < 8; omega, by show M'.1 28 0 19 + w = _; rw [e19, a2, nI_add], ?_⟩
    refine (fun (z : Q (some (.inl (M'.1 44 0 (b + a)))) M') => z) ?_
    rw [(hW a a1).2.1]; exact this
  · have := h M' F (mR_C R)
    unfold q_tracks at this
    rw [a3] at this; exact this
theorem mq_ix6 {B : Int32} {b a t : Nat} (e : B = nI b) : 6 * (B + nI a) + nI t = nI (6 * (b + a) + t) := by
  rw [e, nI_add, show (6 : Int32) = nI 6 from rfl, pk_mul, nI_add]
set_option maxHeartbeats 1000000 in
theorem cm_track {X : am_X} (hX : am_Cl X) (d : Nat) (M : am_M) (hd : 7 ≤ d) (τ : ta) (hτ : ta_ok τ) (hC : mC M τ) (w t u : Int32) (Q : am_P) (h : ∀ M', rm_F M M' → mC M' τ → Q (some (.inl (q_track τ w t u))) M') : X d 114 0 [some (.inr (.inl (28, 0))), some (.inl (w)), some (.inl (t)), some (.inl (u)), none] [] M Q := by
  have hl := (wds_ok hτ).2.1
  refine am_go hX [16] 40 ?_
  refine am_cc (by omega) (cm_isTrack hX _ _ (by omega) τ hτ hC w t _ (fun M' F R a c a1 c1 a2 c2 a3 c3 => am_bne1 ?_) (fun M' F R z => am_bne0 ?_))
  · obtain ⟨b, hb, e19, hW⟩ := mR_W R
    have h6 := ((wds_ok hτ).2.2 a a1).1
    have := h M' F (mR_C R)
    unfold q_track at this
    rw [q_tr_at a3 c3] at this
    have ht : ∀ j, j < 9 → M'.1 (46 + j) 0 (6 * (b + a) + c) = wd_t (am_nth (wds τ) a wd_0) c j := (hW a a1).2.2.1 c c1
    generalize wd_t (am_nth (wds τ) a wd_0) c = r at this ht
    have pt : 6 * (b + a) + c < 48 := by omega
    unfold tk_rd at this
    refine (fun (z : X d 114 16 [some (.inr (.inl (28, 0))), some (.inl (w)), some (.inl (t)), some (.inl (u)), some (.inl (6 * (M'.1 28 0 19 + w) + t))] [] M' Q) => z) ?_
    rw [a2, c2, mq_ix6 e19]
    refine am_go hX [] 20 ?_
    refine ⟨fun (q : u.toInt < 0 ∨ 9 < u.toInt) => ?_, fun (q : u.toInt = 0) => ⟨_, pt, rfl, ?_⟩, fun (q : u.toInt = 1) => ⟨_, pt, rfl, ?_⟩, fun (q : u.toInt = 2) => ⟨_, pt, rfl, ?_⟩, fun (q : u.toInt = 3) => ⟨_, pt, rfl, ?_⟩, fun (q : u.toInt = 4) => ⟨_, pt, rfl, ?_⟩, fun (q : u.toInt = 5) => ⟨_, pt, rfl, ?_⟩, fun (q : u.toInt = 6) => ⟨_, pt, rfl, ?_⟩, fun (q : u.toInt = 7) => ⟨_, pt, rfl, ?_⟩, fun (q : u.toInt = 8) => ⟨_, pt, rfl, ?_⟩, fun (q : u.toInt = 9) => ⟨_, pt, rfl, ?_⟩, trivial⟩
    · rw [if_neg (by omega), if_neg (by omega), if_neg (by omega), if_neg (by omega), if_neg (by omega), if_neg (by omega), if_neg (by omega), if_neg (by omega), if_neg (by omega), if_neg (by omega)] at this; exact this
    · rw [if_pos q, ← ht 0 (by omega)] at this; exact this
    · rw [if_neg (by omega), if_pos q, ← ht 1 (by omega)] at this; exact this
    · rw [if_neg (by omega), if_neg (by omega), if_pos q, ← ht 2 (by omega)] at this; exact this
    · rw [if_neg (by omega), if_neg (by omega), if_neg (by omega), if_pos q, ← ht 3 (by omega)] at this; exact this
    · rw [if_neg (by omega), if_neg (by omega), if_neg (by omega), if_neg (by omega), if_pos q, ← ht 4 (by omega)] at this; exact this
    · rw [if_neg (by omega), if_neg (by omega), if_neg (by omega), if_neg (by omega), if_neg (by omega), if_pos q, ← ht 5 (by omega)] at this; exact this
    · rw [if_neg (by omega), if_neg (by omega), if_neg (by omega), if_neg (by omega), if_neg (by omega), if_neg (by omega), if_pos q, ← ht 6 (by omega)] at this; exact this
    · rw [if_neg (by omega), if_neg (by omega), if_neg (by omega), if_neg (by omega), if_neg (by omega), if_neg (by omega), if_neg (by omega), if_pos q, ← ht 7 (by omega)] at this; exact this
    · rw [if_neg (by omega), if_neg (by omega), if_neg (by omega), if_neg (by omega), if_neg (by omega), if_neg (by omega), if_neg (by omega), if_neg (by omega), if_pos q, ← ht 8 (by omega)] at this
      refine ⟨fun (z : M'.1 54 0 (6 * (b + a) + c) = 0) => ?_, fun (z : ¬ M'.1 54 0 (6 * (b + a) + c) = 0) => ?_⟩
      · rw [if_pos z] at this; exact this
      · rw [if_neg z] at this; exact this
    · rw [if_neg (by omega), if_neg (by omega), if_neg (by omega), if_neg (by omega), if_neg (by omega), if_neg (by omega), if_neg (by omega), if_neg (by omega), if_neg (by omega), if_pos q, ← ht 5 (by omega)] at this
      refine ⟨fun (z : M'.1 51 0 (6 * (b + a) + c) ≤ 1) => ?_, fun (z : ¬ M'.1 51 0 (6 * (b + a) + c) ≤ 1) => ?_⟩
      · rw [if_neg (Int32.not_lt.mpr z)] at this; exact this
      · rw [if_pos (Int32.not_le.mp z)] at this; exact this
  · have := h M' F (mR_C R)
    unfold q_track at this
    rw [q_tr_no z] at this; exact this
theorem cm_accountOf {X : am_X} (hX : am_Cl X) (d : Nat) (M : am_M) (τ : ta) (hτ : ta_ok τ) (hR : mR M τ) (a s e : Nat) (ha : a < (wds τ).length) (hs : s < ta_n τ) (he : e < ta_dn τ s) (Q : am_P) (h : Q (some (.inl (wd_a (wn τ a) s e))) M) : X d 115 0 [some (.inr (.inl (28, 0))), some (.inl (nI a)), some (.inl (nI s)), some (.inl (nI e))] [] M Q := by
  obtain ⟨b, hb, e19, hW⟩ := mR_W hR
  have hl := (wds_ok hτ).2.1
  have hn := hτ.1
  have h4 := (hτ.2.2.1 s hs).2.2.1
  have ix : 48 * (nI b + nI a) + 4 * nI s + nI e = nI (48 * (b + a) + (4 * s + e)) := by
    rw [nI_add, show (48 : Int32) = nI 48 from rfl, show (4 : Int32) = nI 4 from rfl, pk_mul, pk_mul, nI_add, nI_add, Nat.add_assoc]
  refine am_go hX [] 30 ?_
  refine ⟨48 * (b + a) + (4 * s + e), by show 48 * (b + a) + (4 * s + e) < 384; omega, by show 48 * (M.1 28 0 19 + nI a) + 4 * nI s + nI e = _; rw [e19, ix], ?_⟩
  refine (fun (z : Q (some (.inl (M.1 45 0 (48 * (b + a) + (4 * s + e))))) M) => z) ?_
  rw [(hW a ha).2.2.2 s e hs he]; exact h
theorem cm_account {X : am_X} (hX : am_Cl X) (d : Nat) (M : am_M) (hd : 6 ≤ d) (τ : ta) (hτ : ta_ok τ) (hC : mC M τ) (w s e : Int32) (Q : am_P) (h : ∀ M', rm_F M M' → mC M' τ → Q (some (.inl (q_account τ w s e))) M') : X d 116 0 [some (.inr (.inl (28, 0))), some (.inl (w)), some (.inl (s)), some (.inl (e))] [] M Q := by
  refine am_go hX [] 30 ?_
  refine am_cc (by omega) (cm_isWorld hX _ _ (by omega) τ hτ hC w _ (fun M' F R a a1 a2 a3 => am_beq1 (am_cc (by omega) ?_)) (fun M' F R a3 => am_beq0 ?_))
  · have := h M' F (mR_C R)
    unfold q_account at this
    rw [a3] at this
    dsimp only at this
    refine cm_isDot hX _ _ (by omega) τ hτ R.1 s e _ (fun x y x1 y1 x2 y2 x3 y3 => am_beq1 (am_cc (by omega) ?_)) (fun z => am_beq0 ?_)
    · rw [q_dt_at x3 y3] at this
      rw [a2, x2, y2]
      exact cm_accountOf hX _ _ τ hτ R a x y a1 x1 y1 _ this
    · rw [q_dt_no z] at this; exact this
  · have := h M' F (mR_C R)
    unfold q_account at this
    rw [a3] at this; exact this
theorem cm_ordered {X : am_X} (hX : am_Cl X) (d : Nat) (M : am_M) (hd : 5 ≤ d) (τ : ta) (hτ : ta_ok τ) (hC : mC M τ) (i : Int32) (Q : am_P) (h : ∀ M', rm_F M M' → mC M' τ → Q (some (.inl (q_ordered τ i))) M') : X d 118 0 [some (.inr (.inl (28, 0))), some (.inl (i))] [] M Q := by
  have hn := hτ.1
  refine am_go hX [] 30 ?_
  refine am_cc (by omega) (cm_fresh hX _ _ (by omega) τ hτ hC _ (fun M' F R => am_cc (by omega) ?_))
  have := h M' F (mR_C R)
  unfold q_ordered at this
  refine (fun (z : X (d - 1) 82 0 [some (.inr (.inl (28, 0))), some (.inl (i)), some (.inl (0)), some (.inl (M'.1 28 0 1 - 1))] [] M' _) => z) ?_
  rw [R.1.1]
  refine cm_in hX _ _ _ _ _ _ (fun q1 q2 => am_beq1 ?_) (fun q => am_beq0 ?_)
  · rw [ix_lt (by omega)] at q2
    obtain ⟨k, k1, k2, k3⟩ := ix_y (by omega) q1 q2
    rw [k3] at this
    refine ⟨k, by show k < 12; omega, k2, ?_⟩
    refine (fun (z : Q (some (.inl (M'.1 42 0 k))) M') => z) ?_
    rw [R.2.2.1 k k1]; exact this
  · rw [ix_lt (by omega)] at q
    rw [ix_n (by omega) q] at this; exact this
end
section
/-! foretell, name, sure, alive: the class -/
theorem rc_F_rf (M : am_M) : rc_F M M := ⟨fun _ _ _ => rfl, fun _ _ _ _ => rfl, fun _ _ => rfl⟩
noncomputable def lst (P : Nat → Prop) : Nat → Nat → Option Nat
  | 0, _ => none
  | r + 1, k => @ite _ (P k) (Classical.propDecidable (P k)) (some k) (lst P r (k + 1))
theorem lst_y {P : Nat → Prop} {r k : Nat} (h : P k) : lst P (r + 1) k = some k := if_pos h
theorem lst_n {P : Nat → Prop} {r k : Nat} (h : ¬ P k) : lst P (r + 1) k = lst P r (k + 1) := if_neg h
theorem lst_no {P : Nat → Prop} : ∀ (r k : Nat), (∀ j, k ≤ j → j < k + r → ¬ P j) → lst P r k = none
  | 0, _, _ => rfl
  | r + 1, k, h => (lst_n (h k (Nat.le_refl k) (by omega))).trans (lst_no r (k + 1) fun j h1 h2 => h j (by omega) (by omega))
noncomputable def pI (P : Prop) : Int32 := @ite _ P (Classical.propDecidable P) 1 0
theorem pI_y {P : Prop} (h : P) : pI P = 1 := if_pos h
theorem pI_n {P : Prop} (h : ¬ P) : pI P = 0 := if_neg h
def oI (o : Option Nat) : Int32 := match o with
  | some k => nI k
  | none => -1
def q_foretell (τ : ta) (w t m u : Int32) : Int32 := q_tr τ w t NO fun x b => if (0 ≤ u ∧ u ≤ 1) ∧ (wd_t x b 4 ≤ m ∧ m ≤ 999) then Int32.ofInt (tk_f τ (wd_t x b) m.toInt (if u = 0 then 0 else 1)) else NO
def nm_all (τ : ta) (m : Int32) (k : Nat) : Prop := ∀ i, i < (wds τ).length → k < wd_n (wn τ i) ∧ wd_t (wn τ i) k 7 = m
noncomputable def q_name (τ : ta) (m : Int32) : Int32 := if 1 ≤ m ∧ m ≤ 9 then oI (lst (nm_all τ m) 6 0) else -1
def sr_all (τ : ta) (s e : Nat) : Prop := ∀ i, i < (wds τ).length → wd_a (wn τ i) s e = wd_a (wn τ 0) s e
noncomputable def q_sure (τ : ta) (s e : Int32) : Int32 := q_dt τ s e (-1) fun s e => pI (sr_all τ s e)
def al_n (t : Nat → Nat → Int32) : Nat → Nat
  | 0 => 0
  | k + 1 => al_n t k + (if 1 < t k 5 ∧ t k 8 = 0 then 1 else 0)
def q_alive (τ : ta) (w : Int32) : Int32 := match ix w (wds τ).length with
  | some a => nI (al_n (wd_t (wn τ a)) (wd_n (wn τ a)))
  | none => -1
theorem iz_of {x : Int32} {z : Int} (h : x.toInt = z) : x = Int32.ofInt z := by rw [← h, Int32.ofInt_toInt]
theorem tk_mk {r : Nat → Int32} (hok : tk_ok r) : (r 7).toNatClampNeg < 10 ∧ r 7 = nI (r 7).toNatClampNeg := by
  obtain ⟨t0, t1, t2, t3, t4, t7, -⟩ := id hok
  have e : (r 7).toNatClampNeg = (r 7).toInt.toNat := rfl
  exact ⟨by omega, iz_nI (by omega) (by omega)⟩
theorem cw_foretell {X : am_X} (hX : am_Cl X) (d : Nat) (M : am_M) (hd : 10 ≤ d) (τ : ta) (hτ : ta_ok τ) (hC : cC M τ) (w t m u : Int32) (Q : am_P) (h : ∀ M', rc_F M M' → cC M' τ → Q (some (.inl (q_foretell τ w t m u))) M') : X d 13 0 [some (.inr (.inl (0, 0))), some (.inl (w)), some (.inl (t)), some (.inl (m)), some (.inl (u)), none, none] [] M Q := by
  have hl := (wds_ok hτ).2.1
  refine am_go hX [] 60 ?_
  refine am_cc (by omega) (cw_fresh hX _ _ (by omega) τ hτ hC _ (fun M' F R => ?_))
  have := h M' F (cR_C R)
  unfold q_foretell at this
  refine am_cc (by omega) (cw_isTrack hX _ _ (by omega) τ hτ R w t _ (fun a b a1 b1 a2 b2 a3 b3 => am_beq1 (am_cc (by omega) ?_)) (fun z => am_beq0 ?_))
  · have h6 := ((wds_ok hτ).2.2 a a1).1
    have hok := ((wds_ok hτ).2.2 a a1).2.2 b b1
    have hr := (cR_W R a1).2.2.1 b b1
    rw [q_tr_at a3 b3] at this
    generalize wd_t (am_nth (wds τ) a wd_0) b = r at this hok hr
    refine cw_within hX _ _ _ _ _ _ (fun u1 u2 => am_bne1 ?_) (fun z => am_bne0 ?_)
    · refine ⟨a, by show a < 4; omega, a2, b, by show b < 6; omega, b2, am_cc (by omega) ?_⟩
      refine (fun (z : X (d - 1) 25 0 [some (.inl (m)), some (.inl (M'.1 27 (6 * (4 * M'.2.1 8 0 + a) + b) 4)), some (.inl (999))] [] M' _) => z) ?_
      rw [hr 4 (by omega)]
      refine cw_within hX _ _ _ _ _ _ (fun m1 m2 => am_bne1 ?_) (fun z => am_bne0 ?_)
      · rw [if_pos ⟨⟨u1, u2⟩, m1, m2⟩] at this
        obtain ⟨k1, k2⟩ := tk_mk hok
        have t4 := hok.2.2.2.2.1
        have mm1 := Int32.le_iff_toInt_le.mp m1
        have mm2 := Int32.le_iff_toInt_le.mp m2
        rw [show (999 : Int32).toInt = 999 by decide] at mm2
        have ef : ∀ c, c = 0 ∨ c = 1 → M'.1 27 (6 * (4 * M'.2.1 8 0 + a) + b) c + ck_ah (M'.1 7 0 (r 7).toNatClampNeg) m (M'.1 27 (6 * (4 * M'.2.1 8 0 + a) + b) 4) * M'.1 27 (6 * (4 * M'.2.1 8 0 + a) + b) (c + 2) = Int32.ofInt (tk_f τ r m.toInt c) := by
          intro c hc
          rw [hr c (by omega), hr 4 (by omega), hr (c + 2) (by omega), R.1.2.2.2.2.2.1 _ k1]
          exact iz_of (ck_f_ok hok hτ.2.2.2.1 (by omega) mm2 hc)
        refine ⟨(r 7).toNatClampNeg, k1, (hr 7 (by omega)).trans k2, fun (q : ¬ u = 0) => am_cc (by omega) ?_, fun (q : ¬ ¬ u = 0) => am_cc (by omega) ?_⟩
        · rw [if_neg q, ← ef 1 (Or.inr rfl)] at this
          exact cw_foretoldY hX _ _ (by omega) _ _ _ _ this
        · rw [if_pos (Classical.not_not.mp q), ← ef 0 (Or.inl rfl)] at this
          exact cw_foretoldX hX _ _ (by omega) _ _ _ _ this
      · rw [if_neg (fun q => z q.2)] at this; exact this
    · rw [if_neg (fun q => z q.1)] at this; exact this
  · rw [q_tr_no z] at this; exact this
theorem cw_hasMarked {X : am_X} (hX : am_Cl X) (d : Nat) (M : am_M) (τ : ta) (hτ : ta_ok τ) (hR : cR M τ) (i k : Nat) (hi : i < (wds τ).length) (hk : k < 6) (m : Int32) (Q : am_P) (h1 : k < wd_n (wn τ i) ∧ wd_t (wn τ i) k 7 = m → Q (some (.inl (1))) M) (h0 : ¬ (k < wd_n (wn τ i) ∧ wd_t (wn τ i) k 7 = m) → Q (some (.inl (0))) M) : X d 70 0 [some (.inr (.inl (24, 4 * M.2.1 8 0 + i))), some (.inl (nI k)), some (.inl (m))] [] M Q := by
  have hW := cR_W hR hi
  have h6 : wd_n (wn τ i) ≤ 6 := ((wds_ok hτ).2.2 i hi).1
  have e : M.1 24 (4 * M.2.1 8 0 + i) 1 = nI (wd_n (wn τ i)) := hW.2.1
  refine am_go hX [] 20 ?_
  refine ⟨fun (q : M.1 24 (4 * M.2.1 8 0 + i) 1 ≤ nI k) => ⟨Or.inl rfl, h0 (fun z => ?_)⟩, fun (q : ¬ M.1 24 (4 * M.2.1 8 0 + i) 1 ≤ nI k) => ?_⟩
  · rw [e, nI_leI (by omega) (by omega)] at q; omega
  · rw [e, nI_leI (by omega) (by omega)] at q
    have e7 : M.1 27 (6 * (4 * M.2.1 8 0 + i) + k) 7 = wd_t (wn τ i) k 7 := hW.2.2.1 k (by show k < wd_n (wn τ i); omega) 7 (by omega)
    refine ⟨k, by show k < 6; omega, rfl, fun (q2 : ¬ M.1 27 (6 * (4 * M.2.1 8 0 + i) + k) 7 = m) => ⟨Or.inl rfl, h0 (fun z => q2 (e7.trans z.2))⟩, fun (q2 : ¬ ¬ M.1 27 (6 * (4 * M.2.1 8 0 + i) + k) 7 = m) => ⟨Or.inr rfl, h1 ⟨by omega, e7.symm.trans (Classical.not_not.mp q2)⟩⟩⟩
theorem cw_allMark {X : am_X} (hX : am_Cl X) (d : Nat) (M : am_M) (hd : 1 ≤ d) (τ : ta) (hτ : ta_ok τ) (hR : cR M τ) (k : Nat) (hk : k < 6) (m : Int32) (Q : am_P) (h1 : nm_all τ m k → Q (some (.inl (1))) M) (h0 : ¬ nm_all τ m k → Q (some (.inl (0))) M) : X d 46 0 [some (.inr (.inl (8, 0))), some (.inl (nI k)), some (.inl (m)), none] [] M Q := by
  have hl := (wds_ok hτ).2.1
  have e : M.1 8 0 1 = nI (wds τ).length := hR.2.2.2.1
  refine am_go hX [2] 20 ?_
  have loop : ∀ t i : Nat, i + t = (wds τ).length → (∀ j, j < i → k < wd_n (wn τ j) ∧ wd_t (wn τ j) k 7 = m) → X d 46 2 [some (.inr (.inl (8, 0))), some (.inl (nI k)), some (.inl (m)), some (.inl (nI i))] [] M Q := by
    intro t
    induction t with
    | zero =>
      intro i hi ha
      have hi : i = (wds τ).length := by omega
      refine am_go hX [2] 30 ?_
      refine ⟨fun _ => ⟨Or.inr rfl, h1 (fun j hj => ha j (by omega))⟩, fun (q : ¬ M.1 8 0 1 ≤ nI i) => absurd (by rw [e, hi]; exact nI_le (Nat.le_refl _) (by omega)) q⟩
    | succ t ih =>
      intro i hi ha
      refine am_go hX [2] 30 ?_
      refine ⟨fun (q : M.1 8 0 1 ≤ nI i) => absurd q (by rw [e]; exact nI_ge (by omega) (by omega)), fun _ => ⟨i, by show i < 4; omega, rfl, am_cc hd ?_⟩⟩
      refine cw_hasMarked hX _ _ τ hτ hR i k (by omega) hk m _ (fun z => am_bne1 ?_) (fun z => am_bne0 ⟨Or.inl rfl, h0 (fun y => z (y i (by omega)))⟩)
      refine (fun (z : X d 46 2 [some (.inr (.inl (8, 0))), some (.inl (nI k)), some (.inl (m)), some (.inl (nI i + 1))] [] M Q) => z) ?_
      rw [nI_1]
      refine ih (i + 1) (by omega) (fun j hj => ?_)
      by_cases c : j = i
      · rw [c]; exact z
      · exact ha j (by omega)
  exact loop (wds τ).length 0 (by omega) (fun j hj => by omega)
theorem cw_name {X : am_X} (hX : am_Cl X) (d : Nat) (M : am_M) (hd : 10 ≤ d) (τ : ta) (hτ : ta_ok τ) (hC : cC M τ) (m : Int32) (Q : am_P) (h : ∀ M', rc_F M M' → cC M' τ → Q (some (.inl (q_name τ m))) M') : X d 15 0 [some (.inr (.inl (0, 0))), some (.inl (m)), none] [] M Q := by
  have hl := wds_ok hτ
  refine am_go hX [14] 60 ?_
  refine am_cc (by omega) (cw_within hX _ _ _ _ _ _ (fun m1 m2 => am_bne1 (am_cc (by omega) ?_)) (fun z => am_bne0 ?_))
  · refine cw_fresh hX _ _ (by omega) τ hτ hC _ (fun M' F R => ?_)
    have := h M' F (cR_C R)
    unfold q_name at this
    rw [if_pos ⟨m1, m2⟩] at this
    have h6 : wd_n (wn τ 0) ≤ 6 := (hl.2.2 0 (by omega)).1
    have e : M'.1 24 (4 * M'.2.1 8 0 + 0) 1 = nI (wd_n (wn τ 0)) := (cR_W R (i := 0) (by omega)).2.1
    have loop : ∀ t k : Nat, k + t = wd_n (wn τ 0) → lst (nm_all τ m) 6 0 = lst (nm_all τ m) (6 - k) k → X d 15 14 [some (.inr (.inl (0, 0))), some (.inl (m)), some (.inl (nI k))] [] M' Q := by
      intro t
      induction t with
      | zero =>
        intro k hk ha
        have hk : k = wd_n (wn τ 0) := by omega
        refine am_go hX [14] 30 ?_
        refine ⟨0, by show 0 < 4; omega, rfl, fun _ => ?_, fun (q : ¬ M'.1 24 (4 * M'.2.1 8 0 + 0) 1 ≤ nI k) => absurd (by rw [e, hk]; exact nI_le (Nat.le_refl _) (by omega)) q⟩
        rw [ha, lst_no _ _ (fun j j1 j2 z => by have := (z 0 (by omega)).1; omega)] at this
        exact this
      | succ t ih =>
        intro k hk ha
        refine am_go hX [14] 30 ?_
        refine ⟨0, by show 0 < 4; omega, rfl, fun (q : M'.1 24 (4 * M'.2.1 8 0 + 0) 1 ≤ nI k) => absurd q (by rw [e]; exact nI_ge (by omega) (by omega)), fun _ => am_cc (by omega) ?_⟩
        have e6 : 6 - k = (6 - (k + 1)) + 1 := by omega
        refine cw_allMark hX _ _ (by omega) τ hτ R k (by omega) m _ (fun z => am_beq1 ?_) (fun z => am_beq0 ?_)
        · rw [ha, e6, lst_y z] at this; exact this
        · refine (fun (z : X d 15 14 [some (.inr (.inl (0, 0))), some (.inl (m)), some (.inl (nI k + 1))] [] M' Q) => z) ?_
          rw [nI_1]
          refine ih (k + 1) (by omega) ?_
          rw [ha, e6, lst_n z]
    exact loop (wd_n (wn τ 0)) 0 (by omega) rfl
  · have := h M (rc_F_rf M) hC
    unfold q_name at this
    rw [if_neg z] at this; exact this
theorem cw_allAgree {X : am_X} (hX : am_Cl X) (d : Nat) (M : am_M) (hd : 1 ≤ d) (τ : ta) (hτ : ta_ok τ) (hR : cR M τ) (s e : Nat) (hs : s < ta_n τ) (he : e < ta_dn τ s) (Q : am_P) (h1 : sr_all τ s e → Q (some (.inl (1))) M) (h0 : ¬ sr_all τ s e → Q (some (.inl (0))) M) : X d 47 0 [some (.inr (.inl (8, 0))), some (.inl (nI s)), some (.inl (nI e)), none] [] M Q := by
  have hl := wds_ok hτ
  have hn := hτ.1
  have h4 := (hτ.2.2.1 s hs).2.2.1
  have ek : M.1 8 0 1 = nI (wds τ).length := hR.2.2.2.1
  have ea : ∀ i, i < (wds τ).length → M.1 26 (4 * M.2.1 8 0 + i) (4 * s + e) = wd_a (wn τ i) s e := fun i hi => (cR_W hR hi).2.2.2 s e hs he
  refine am_go hX [2] 20 ?_
  have loop : ∀ t i : Nat, i + t = (wds τ).length → (∀ j, j < i → wd_a (wn τ j) s e = wd_a (wn τ 0) s e) → X d 47 2 [some (.inr (.inl (8, 0))), some (.inl (nI s)), some (.inl (nI e)), some (.inl (nI i))] [] M Q := by
    intro t
    induction t with
    | zero =>
      intro i hi ha
      have hi : i = (wds τ).length := by omega
      refine am_go hX [2] 30 ?_
      refine ⟨fun _ => ⟨Or.inr rfl, h1 (fun j hj => ha j (by omega))⟩, fun (q : ¬ M.1 8 0 1 ≤ nI i) => absurd (by rw [ek, hi]; exact nI_le (Nat.le_refl _) (by omega)) q⟩
    | succ t ih =>
      intro i hi ha
      refine am_go hX [2] 30 ?_
      refine ⟨fun (q : M.1 8 0 1 ≤ nI i) => absurd q (by rw [ek]; exact nI_ge (by omega) (by omega)), fun _ => ⟨i, by show i < 4; omega, rfl, am_cc hd ?_⟩⟩
      refine cw_accountOf hX _ _ _ s e (by omega) (by omega) _ ⟨0, by show 0 < 4; omega, rfl, am_cc hd ?_⟩
      refine cw_accountOf hX _ _ _ s e (by omega) (by omega) _ ?_
      refine ⟨fun (q : M.1 26 (4 * M.2.1 8 0 + i) (4 * s + e) = M.1 26 (4 * M.2.1 8 0 + 0) (4 * s + e)) => ?_, fun (q : ¬ M.1 26 (4 * M.2.1 8 0 + i) (4 * s + e) = M.1 26 (4 * M.2.1 8 0 + 0) (4 * s + e)) => ⟨Or.inl rfl, h0 (fun z => q ?_)⟩⟩
      · refine (fun (z : X d 47 2 [some (.inr (.inl (8, 0))), some (.inl (nI s)), some (.inl (nI e)), some (.inl (nI i + 1))] [] M Q) => z) ?_
        rw [nI_1]
        refine ih (i + 1) (by omega) (fun j hj => ?_)
        by_cases c : j = i
        · rw [c, ← ea i (by omega), ← ea 0 (by omega)]; exact q
        · exact ha j (by omega)
      · rw [ea i (by omega), ea 0 (by omega)]; exact z i (by omega)
  exact loop ((wds τ).length - 1) 1 (by omega) (fun j hj => by rw [show j = 0 by omega])
theorem cw_sure {X : am_X} (hX : am_Cl X) (d : Nat) (M : am_M) (hd : 10 ≤ d) (τ : ta) (hτ : ta_ok τ) (hC : cC M τ) (s e : Int32) (Q : am_P) (h : ∀ M', rc_F M M' → cC M' τ → Q (some (.inl (q_sure τ s e))) M') : X d 16 0 [some (.inr (.inl (0, 0))), some (.inl (s)), some (.inl (e))] [] M Q := by
  refine am_go hX [] 40 ?_
  refine am_cc (by omega) (cw_isDot hX _ _ (by omega) τ hτ hC.1 s e _ (fun x y x1 y1 x2 y2 x3 y3 => am_bne1 (am_cc (by omega) ?_)) (fun z => am_bne0 ?_))
  · refine cw_fresh hX _ _ (by omega) τ hτ hC _ (fun M' F R => am_cc (by omega) ?_)
    have := h M' F (cR_C R)
    unfold q_sure at this
    rw [q_dt_at x3 y3] at this
    rw [x2, y2]
    refine cw_allAgree hX _ _ (by omega) τ hτ R x y x1 y1 _ (fun z => am_beq1 ?_) (fun z => am_beq0 ?_)
    · rw [pI_y z] at this; exact this
    · rw [pI_n z] at this; exact this
  · have := h M (rc_F_rf M) hC
    unfold q_sure at this
    rw [q_dt_no z] at this; exact this
theorem cw_countAlive {X : am_X} (hX : am_Cl X) (d : Nat) (M : am_M) (hd : 1 ≤ d) (p n : Nat) (hn : n ≤ 6) (t : Nat → Nat → Int32) (e1 : M.1 24 p 1 = nI n) (et : ∀ k, k < n → ∀ j, j < 9 → M.1 27 (6 * p + k) j = t k j) (Q : am_P) (h : Q (some (.inl (nI (al_n t n)))) M) : X d 69 0 [some (.inr (.inl (24, p))), none, none] [] M Q := by
  refine am_go hX [4] 20 ?_
  have loop : ∀ r k : Nat, k + r = n → X d 69 4 [some (.inr (.inl (24, p))), some (.inl (nI (al_n t k))), some (.inl (nI k))] [] M Q := by
    intro r
    induction r with
    | zero =>
      intro k hk
      have hk : k = n := by omega
      subst hk
      refine am_go hX [4] 30 ?_
      exact ⟨fun _ => h, fun (q : ¬ M.1 24 p 1 ≤ nI k) => absurd (by rw [e1]; exact nI_le (Nat.le_refl _) (by omega)) q⟩
    | succ r ih =>
      intro k hk
      have next : ∀ x : Nat, al_n t (k + 1) = al_n t k + x → X d 69 4 [some (.inr (.inl (24, p))), some (.inl (nI (al_n t k) + nI x)), some (.inl (nI k + 1))] [] M Q := by
        intro x hx
        rw [nI_1, nI_add, ← hx]
        exact ih (k + 1) (by omega)
      refine am_go hX [4] 30 ?_
      refine ⟨fun (q : M.1 24 p 1 ≤ nI k) => absurd q (by rw [e1]; exact nI_ge (by omega) (by omega)), fun _ => ⟨k, by show k < 6; omega, rfl, am_cc hd ?_⟩⟩
      have e5 : M.1 27 (6 * p + k) 5 = t k 5 := et k (by omega) 5 (by omega)
      have e8 : M.1 27 (6 * p + k) 8 = t k 8 := et k (by omega) 8 (by omega)
      refine cw_isConfirmed hX _ _ (6 * p + k) _ (fun z => am_beq1 ?_) (fun z => am_beq0 ?_)
      · rw [e5, iz_1lt] at z
        refine ⟨k, by show k < 6; omega, rfl, fun (q : ¬ M.1 27 (6 * p + k) 8 = 0) => ?_, fun (q : ¬ ¬ M.1 27 (6 * p + k) 8 = 0) => ?_⟩
        · exact next 0 (by rw [al_n, if_neg (fun y => q (e8.trans y.2))])
        · exact next 1 (by rw [al_n, if_pos ⟨z, e8.symm.trans (Classical.not_not.mp q)⟩])
      · rw [e5, iz_1lt] at z
        exact next 0 (by rw [al_n, if_neg (fun y => z y.1)])
  exact loop n 0 (by omega)
theorem cw_alive {X : am_X} (hX : am_Cl X) (d : Nat) (M : am_M) (hd : 10 ≤ d) (τ : ta) (hτ : ta_ok τ) (hC : cC M τ) (w : Int32) (Q : am_P) (h : ∀ M', rc_F M M' → cC M' τ → Q (some (.inl (q_alive τ w))) M') : X d 17 0 [some (.inr (.inl (0, 0))), some (.inl (w))] [] M Q := by
  have hl := (wds_ok hτ).2.1
  refine am_go hX [] 30 ?_
  refine am_cc (by omega) (cw_fresh hX _ _ (by omega) τ hτ hC _ (fun M' F R => ?_))
  have := h M' F (cR_C R)
  unfold q_alive at this
  refine am_cc (by omega) (cw_isWorld hX _ _ τ hτ R w _ (fun a a1 a2 a3 => ?_) (fun a3 => ?_))
  · rw [a3] at this
    refine am_beq1 ⟨a, by show a < 4; omega, a2, am_cc (by omega) ?_⟩
    exact cw_countAlive hX _ _ (by omega) _ (wd_n (wn τ a)) ((wds_ok hτ).2.2 a a1).1 (wd_t (wn τ a)) (cR_W R a1).2.1 (cR_W R a1).2.2.1 _ this
  · refine am_beq0 ?_
    rw [a3] at this; exact this
end
section
/-! foretell, name, sure, alive: the reference -/
theorem lz_of32 {v : Int64} {z : Int} (h : v.toInt = z) : v.toInt32 = Int32.ofInt z := by
  apply iz_ext
  rw [Int64.toInt_toInt32, h, Int32.toInt_ofInt]
theorem cm_foretell {X : am_X} (hX : am_Cl X) (d : Nat) (M : am_M) (hd : 7 ≤ d) (τ : ta) (hτ : ta_ok τ) (hC : mC M τ) (w t m u : Int32) (Q : am_P) (h : ∀ M', rm_F M M' → mC M' τ → Q (some (.inl (q_foretell τ w t m u))) M') : X d 117 0 [some (.inr (.inl (28, 0))), some (.inl (w)), some (.inl (t)), some (.inl (m)), some (.inl (u))] [] M Q := by
  have hl := (wds_ok hτ).2.1
  refine am_go hX [] 60 ?_
  refine am_cc (by omega) (cm_isTrack hX _ _ (by omega) τ hτ hC w t _ (fun M' F R a c a1 c1 a2 c2 a3 c3 => am_beq1 (am_cc (by omega) ?_)) (fun M' F R z => am_beq0 ?_))
  · obtain ⟨b, hb, e19, hW⟩ := mR_W R
    have h6 := ((wds_ok hτ).2.2 a a1).1
    have hok := ((wds_ok hτ).2.2 a a1).2.2 c c1
    have := h M' F (mR_C R)
    unfold q_foretell at this
    rw [q_tr_at a3 c3] at this
    have hr : ∀ j, j < 9 → M'.1 (46 + j) 0 (6 * (b + a) + c) = wd_t (am_nth (wds τ) a wd_0) c j := (hW a a1).2.2.1 c c1
    generalize wd_t (am_nth (wds τ) a wd_0) c = r at this hok hr
    have pt : 6 * (b + a) + c < 48 := by omega
    have eix : 6 * (M'.1 28 0 19 + w) + t = nI (6 * (b + a) + c) := by rw [a2, c2, mq_ix6 e19]
    refine cm_in hX _ _ _ _ _ _ (fun u1 u2 => am_beq1 ?_) (fun z => am_beq0 ?_)
    · refine ⟨6 * (b + a) + c, pt, eix, am_cc (by omega) ?_⟩
      refine (fun (z : X (d - 1) 82 0 [some (.inr (.inl (28, 0))), some (.inl (m)), some (.inl (M'.1 50 0 (6 * (b + a) + c))), some (.inl (999))] [] M' _) => z) ?_
      rw [hr 4 (by omega)]
      refine cm_in hX _ _ _ _ _ _ (fun m1 m2 => am_bne1 ?_) (fun z => am_bne0 ?_)
      · rw [if_pos ⟨⟨u1, u2⟩, m1, m2⟩] at this
        have t4 := hok.2.2.2.2.1
        have mm1 := Int32.le_iff_toInt_le.mp m1
        have mm2 := Int32.le_iff_toInt_le.mp m2
        rw [show (999 : Int32).toInt = 999 by decide] at mm2
        have fin : ∀ g, g = 0 ∨ g = 1 → ∀ Q' : am_P, (∀ v : Int64, v.toInt32 = Int32.ofInt (tk_f τ r m.toInt g) → Q' (some (.inr (.inr (v)))) M') → X (d - 1) 96 0 [some (.inr (.inl (28, 0))), some (.inl (6 * (M'.1 28 0 19 + w) + t)), some (.inl (m)), some (.inl (nI g)), none, none, none, none, none, none, none] [] M' Q' := by
          intro g hg Q' hQ'
          rw [eix]
          exact cm_foretold hX _ _ τ hτ.2.2.2.1 R.1.2.2.2.1 _ pt r hr hok m (by omega) mm2 g hg _ (fun v hv => hQ' v (lz_of32 hv))
        refine ⟨fun (q : ¬ u = 1) => am_cc (by omega) ?_, fun (q : ¬ ¬ u = 1) => am_cc (by omega) ?_⟩
        · have u0 : u = 0 := by
            have z1 := Int32.le_iff_toInt_le.mp u1
            have z2 := Int32.le_iff_toInt_le.mp u2
            rw [show (0 : Int32).toInt = 0 by decide] at z1
            rw [show (1 : Int32).toInt = 1 by decide] at z2
            have z3 : u.toInt ≠ 1 := fun z => q (iz_ext (z.trans (by decide)))
            exact iz_ext ((by omega : u.toInt = 0).trans (by decide))
          rw [if_pos u0] at this
          exact fin 0 (Or.inl rfl) _ (fun v hv => by rw [← hv] at this; exact this)
        · have u1 : ¬ u = 0 := by rw [Classical.not_not.mp q]; decide
          rw [if_neg u1] at this
          exact fin 1 (Or.inr rfl) _ (fun v hv => by rw [← hv] at this; exact this)
      · rw [if_neg (fun q => z q.2)] at this; exact this
    · rw [if_neg (fun q => z q.1)] at this; exact this
  · have := h M' F (mR_C R)
    unfold q_foretell at this
    rw [q_tr_no z] at this; exact this
set_option maxHeartbeats 1000000 in
theorem cm_name {X : am_X} (hX : am_Cl X) (d : Nat) (M : am_M) (hd : 5 ≤ d) (τ : ta) (hτ : ta_ok τ) (hC : mC M τ) (m : Int32) (Q : am_P) (h : ∀ M', rm_F M M' → mC M' τ → Q (some (.inl (q_name τ m))) M') : X d 119 0 [some (.inr (.inl (28, 0))), some (.inl (m)), none, none, none] [] M Q := by
  have hl := wds_ok hτ
  refine am_go hX [12] 60 ?_
  refine am_cc (by omega) (cm_fresh hX _ _ (by omega) τ hτ hC _ (fun M' F R => am_cc (by omega) ?_))
  have := h M' F (mR_C R)
  unfold q_name at this
  obtain ⟨b, hb, e19, hW⟩ := mR_W R
  have e18 : M'.1 28 0 18 = nI (wds τ).length := R.2.2.2.1
  refine cm_in hX _ _ _ _ _ _ (fun m1 m2 => am_bne1 ?_) (fun z => am_bne0 ?_)
  · rw [if_pos ⟨m1, m2⟩] at this
    have inner : ∀ k, k < 6 → (nm_all τ m k → X d 119 53 [some (.inr (.inl (28, 0))), some (.inl (m)), some (.inl (nI k)), some (.inl (1)), some (.inl (nI (wds τ).length))] [] M' Q) → (¬ nm_all τ m k → X d 119 53 [some (.inr (.inl (28, 0))), some (.inl (m)), some (.inl (nI k)), some (.inl (0)), some (.inl (nI (wds τ).length))] [] M' Q) →
        ∀ t i : Nat, i + t = (wds τ).length → ∀ y : Int32, (y = 1 ∧ (∀ j, j < i → k < wd_n (wn τ j) ∧ wd_t (wn τ j) k 7 = m)) ∨ (y = 0 ∧ ¬ nm_all τ m k) → X d 119 19 [some (.inr (.inl (28, 0))), some (.inl (m)), some (.inl (nI k)), some (.inl (y)), some (.inl (nI i))] [] M' Q := by
      intro k hk g1 g0 t
      induction t with
      | zero =>
        intro i hi y hy
        have hi : i = (wds τ).length := by omega
        refine am_go hX [53] 30 ?_
        refine ⟨fun _ => ?_, fun (q : ¬ M'.1 28 0 18 ≤ nI i) => absurd (by rw [e18, hi]; exact nI_le (Nat.le_refl _) (by omega)) q⟩
        rcases hy with ⟨rfl, ha⟩ | ⟨rfl, ha⟩
        · rw [hi]; exact g1 (fun j hj => ha j (by omega))
        · rw [hi]; exact g0 ha
      | succ t ih =>
        intro i hi y hy
        have next : ∀ y', (y' = 1 ∧ (∀ j, j < i + 1 → k < wd_n (wn τ j) ∧ wd_t (wn τ j) k 7 = m)) ∨ (y' = 0 ∧ ¬ nm_all τ m k) → X d 119 19 [some (.inr (.inl (28, 0))), some (.inl (m)), some (.inl (nI k)), some (.inl (y')), some (.inl (nI i + 1))] [] M' Q := by
          intro y' hy'
          rw [nI_1]
          exact ih (i + 1) (by omega) y' hy'
        have h6 : wd_n (wn τ i) ≤ 6 := (hl.2.2 i (by omega)).1
        have e44 : M'.1 44 0 (b + i) = nI (wd_n (wn τ i)) := (hW i (by omega)).2.1
        refine am_go hX [19, 53] 60 ?_
        refine ⟨fun (q : M'.1 28 0 18 ≤ nI i) => absurd q (by rw [e18]; exact nI_ge (by omega) (by omega)), fun _ => ?_⟩
        rcases hy with ⟨rfl, ha⟩ | ⟨rfl, ha⟩
        · refine am_beq1 ⟨b + i, by show b + i < 8; omega, by show M'.1 28 0 19 + nI i = _; rw [e19, nI_add], fun (q : M'.1 44 0 (b + i) ≤ nI k) => ?_, fun (q : ¬ M'.1 44 0 (b + i) ≤ nI k) => ?_⟩
          · rw [e44, nI_leI (by omega) (by omega)] at q
            exact next 0 (Or.inr ⟨rfl, fun z => by have := (z i (by omega)).1; omega⟩)
          · rw [e44, nI_leI (by omega) (by omega)] at q
            have e7 : M'.1 53 0 (6 * (b + i) + k) = wd_t (wn τ i) k 7 := (hW i (by omega)).2.2.1 k (by show k < wd_n (wn τ i); omega) 7 (by omega)
            refine ⟨6 * (b + i) + k, by show 6 * (b + i) + k < 48; omega, mq_ix6 e19, fun (q2 : ¬ M'.1 53 0 (6 * (b + i) + k) = m) => ?_, fun (q2 : ¬ ¬ M'.1 53 0 (6 * (b + i) + k) = m) => ?_⟩
            · exact next 0 (Or.inr ⟨rfl, fun z => q2 (e7.trans (z i (by omega)).2)⟩)
            · refine next 1 (Or.inl ⟨rfl, fun j hj => ?_⟩)
              by_cases c : j = i
              · rw [c]; exact ⟨by omega, e7.symm.trans (Classical.not_not.mp q2)⟩
              · exact ha j (by omega)
        · exact am_beq0 (next 0 (Or.inr ⟨rfl, ha⟩))
    have outer : ∀ t k : Nat, k + t = 6 → lst (nm_all τ m) 6 0 = lst (nm_all τ m) (6 - k) k → ∀ y3 y4, X d 119 12 [some (.inr (.inl (28, 0))), some (.inl (m)), some (.inl (nI k)), y3, y4] [] M' Q := by
      intro t
      induction t with
      | zero =>
        intro k hk ha y3 y4
        have hk : k = 6 := by omega
        subst hk
        rw [ha] at this
        refine am_go hX [12, 19] 30 ?_
        exact ⟨fun _ => this, fun (q : ¬ (6 : Int32) ≤ nI 6) => absurd (by decide) q⟩
      | succ t ih =>
        intro k hk ha y3 y4
        have e6 : 6 - k = (6 - (k + 1)) + 1 := by omega
        refine am_go hX [12, 19] 30 ?_
        refine ⟨fun (q : (6 : Int32) ≤ nI k) => absurd q (nI_ge (b := 6) (by omega) (by decide)), fun _ => ?_⟩
        refine inner k (by omega) (fun z => ?_) (fun z => ?_) (wds τ).length 0 (by omega) 1 (Or.inl ⟨rfl, fun j hj => by omega⟩)
        · refine am_go hX [12] 30 ?_
          rw [ha, e6, lst_y z] at this
          exact am_beq1 this
        · refine am_go hX [12] 30 (am_beq0 ?_)
          refine (fun (z : X d 119 12 [some (.inr (.inl (28, 0))), some (.inl (m)), some (.inl (nI k + 1)), some (.inl (0)), some (.inl (nI (wds τ).length))] [] M' Q) => z) ?_
          rw [nI_1]
          refine ih (k + 1) (by omega) ?_ _ _
          rw [ha, e6, lst_n z]
    exact outer 6 0 (by omega) rfl _ _
  · rw [if_neg z] at this; exact this
theorem cm_isSure {X : am_X} (hX : am_Cl X) (d : Nat) (M : am_M) (hd : 1 ≤ d) (τ : ta) (hτ : ta_ok τ) (hR : mR M τ) (s e : Nat) (hs : s < ta_n τ) (he : e < ta_dn τ s) (Q : am_P) (h1 : sr_all τ s e → Q (some (.inl (1))) M) (h0 : ¬ sr_all τ s e → Q (some (.inl (0))) M) : X d 120 0 [some (.inr (.inl (28, 0))), some (.inl (nI s)), some (.inl (nI e)), none, none] [] M Q := by
  have hl := wds_ok hτ
  have e18 : M.1 28 0 18 = nI (wds τ).length := hR.2.2.2.1
  refine am_go hX [4] 20 ?_
  have loop : ∀ t i : Nat, i + t = (wds τ).length → ∀ y : Int32, (y = 1 ∧ ∀ j, j < i → wd_a (wn τ j) s e = wd_a (wn τ 0) s e) ∨ (y = 0 ∧ ¬ sr_all τ s e) → X d 120 4 [some (.inr (.inl (28, 0))), some (.inl (nI s)), some (.inl (nI e)), some (.inl (y)), some (.inl (nI i))] [] M Q := by
    intro t
    induction t with
    | zero =>
      intro i hi y hy
      have hi : i = (wds τ).length := by omega
      refine am_go hX [4] 30 ?_
      refine ⟨fun _ => ?_, fun (q : ¬ M.1 28 0 18 ≤ nI i) => absurd (by rw [e18, hi]; exact nI_le (Nat.le_refl _) (by omega)) q⟩
      rcases hy with ⟨rfl, ha⟩ | ⟨rfl, ha⟩
      · exact ⟨Or.inr rfl, h1 (fun j hj => ha j (by omega))⟩
      · exact ⟨Or.inl rfl, h0 ha⟩
    | succ t ih =>
      intro i hi y hy
      have next : ∀ y', (y' = 1 ∧ ∀ j, j < i + 1 → wd_a (wn τ j) s e = wd_a (wn τ 0) s e) ∨ (y' = 0 ∧ ¬ sr_all τ s e) → X d 120 4 [some (.inr (.inl (28, 0))), some (.inl (nI s)), some (.inl (nI e)), some (.inl (y')), some (.inl (nI i + 1))] [] M Q := by
        intro y' hy'
        rw [nI_1]
        exact ih (i + 1) (by omega) y' hy'
      refine am_go hX [4] 40 ?_
      refine ⟨fun (q : M.1 28 0 18 ≤ nI i) => absurd q (by rw [e18]; exact nI_ge (by omega) (by omega)), fun _ => ?_⟩
      rcases hy with ⟨rfl, ha⟩ | ⟨rfl, ha⟩
      · refine am_beq1 (am_cc hd (cm_accountOf hX _ _ τ hτ hR i s e (by omega) hs he _ (am_cc hd (cm_accountOf hX _ _ τ hτ hR 0 s e (by omega) hs he _ ?_))))
        refine ⟨fun (q : ¬ wd_a (wn τ i) s e = wd_a (wn τ 0) s e) => ?_, fun (q : ¬ ¬ wd_a (wn τ i) s e = wd_a (wn τ 0) s e) => ?_⟩
        · exact next 0 (Or.inr ⟨rfl, fun z => q (z i (by omega))⟩)
        · refine next 1 (Or.inl ⟨rfl, fun j hj => ?_⟩)
          by_cases c : j = i
          · rw [c]; exact Classical.not_not.mp q
          · exact ha j (by omega)
      · exact am_beq0 (next 0 (Or.inr ⟨rfl, ha⟩))
  exact loop ((wds τ).length - 1) 1 (by omega) 1 (Or.inl ⟨rfl, fun j hj => by rw [show j = 0 by omega]⟩)
theorem cm_sure {X : am_X} (hX : am_Cl X) (d : Nat) (M : am_M) (hd : 5 ≤ d) (τ : ta) (hτ : ta_ok τ) (hC : mC M τ) (s e : Int32) (Q : am_P) (h : ∀ M', rm_F M M' → mC M' τ → Q (some (.inl (q_sure τ s e))) M') : X d 121 0 [some (.inr (.inl (28, 0))), some (.inl (s)), some (.inl (e))] [] M Q := by
  refine am_go hX [] 40 ?_
  refine am_cc (by omega) (cm_fresh hX _ _ (by omega) τ hτ hC _ (fun M' F R => am_cc (by omega) ?_))
  have := h M' F (mR_C R)
  unfold q_sure at this
  refine cm_isDot hX _ _ (by omega) τ hτ R.1 s e _ (fun x y x1 y1 x2 y2 x3 y3 => am_beq1 (am_cc (by omega) ?_)) (fun z => am_beq0 ?_)
  · rw [q_dt_at x3 y3] at this
    rw [x2, y2]
    refine cm_isSure hX _ _ (by omega) τ hτ R x y x1 y1 _ (fun z => am_beq1 ?_) (fun z => am_beq0 ?_)
    · rw [pI_y z] at this; exact this
    · rw [pI_n z] at this; exact this
  · rw [q_dt_no z] at this; exact this
set_option maxHeartbeats 1000000 in
theorem cm_alive {X : am_X} (hX : am_Cl X) (d : Nat) (M : am_M) (hd : 6 ≤ d) (τ : ta) (hτ : ta_ok τ) (hC : mC M τ) (w : Int32) (Q : am_P) (h : ∀ M', rm_F M M' → mC M' τ → Q (some (.inl (q_alive τ w))) M') : X d 122 0 [some (.inr (.inl (28, 0))), some (.inl (w)), none, none] [] M Q := by
  have hl := wds_ok hτ
  refine am_go hX [10] 40 ?_
  refine am_cc (by omega) (cm_isWorld hX _ _ (by omega) τ hτ hC w _ (fun M' F R a a1 a2 a3 => am_bne1 ?_) (fun M' F R a3 => am_bne0 ?_))
  · obtain ⟨b, hb, e19, hW⟩ := mR_W R
    have := h M' F (mR_C R)
    unfold q_alive at this
    rw [a3] at this
    have h6 : wd_n (wn τ a) ≤ 6 := (hl.2.2 a a1).1
    have e44 : M'.1 44 0 (b + a) = nI (wd_n (wn τ a)) := (hW a a1).2.1
    have et : ∀ k, k < wd_n (wn τ a) → ∀ j, j < 9 → M'.1 (46 + j) 0 (6 * (b + a) + k) = wd_t (wn τ a) k j := (hW a a1).2.2.1
    have ew : M'.1 28 0 19 + w = nI (b + a) := by rw [e19, a2, nI_add]
    have loop : ∀ r k : Nat, k + r = wd_n (wn τ a) → X d 122 10 [some (.inr (.inl (28, 0))), some (.inl (w)), some (.inl (nI (al_n (wd_t (wn τ a)) k))), some (.inl (nI k))] [] M' Q := by
      intro r
      induction r with
      | zero =>
        intro k hk
        have hk : k = wd_n (wn τ a) := by omega
        rw [hk]
        refine am_go hX [10] 30 ?_
        exact ⟨b + a, by show b + a < 8; omega, ew, fun _ => this, fun (q : ¬ M'.1 44 0 (b + a) ≤ nI (wd_n (wn τ a))) => absurd (by rw [e44]; exact nI_le (Nat.le_refl _) (by omega)) q⟩
      | succ r ih =>
        intro k hk
        have next : ∀ x : Nat, al_n (wd_t (wn τ a)) (k + 1) = al_n (wd_t (wn τ a)) k + x → X d 122 10 [some (.inr (.inl (28, 0))), some (.inl (w)), some (.inl (nI (al_n (wd_t (wn τ a)) k) + nI x)), some (.inl (nI k + 1))] [] M' Q := by
          intro x hx
          rw [nI_1, nI_add, ← hx]
          exact ih (k + 1) (by omega)
        have eix : 6 * (M'.1 28 0 19 + w) + nI k = nI (6 * (b + a) + k) := by rw [a2]; exact mq_ix6 e19
        have e5 : M'.1 51 0 (6 * (b + a) + k) = wd_t (wn τ a) k 5 := et k (by omega) 5 (by omega)
        have e8 : M'.1 54 0 (6 * (b + a) + k) = wd_t (wn τ a) k 8 := et k (by omega) 8 (by omega)
        refine am_go hX [10] 60 ?_
        refine ⟨b + a, by show b + a < 8; omega, ew, fun (q : M'.1 44 0 (b + a) ≤ nI k) => absurd q (by rw [e44]; exact nI_ge (by omega) (by omega)), fun _ => ⟨6 * (b + a) + k, by show 6 * (b + a) + k < 48; omega, eix, fun (q : M'.1 51 0 (6 * (b + a) + k) ≤ 1) => ?_, fun (q : ¬ M'.1 51 0 (6 * (b + a) + k) ≤ 1) => ⟨6 * (b + a) + k, by show 6 * (b + a) + k < 48; omega, eix, fun (q2 : ¬ M'.1 54 0 (6 * (b + a) + k) = 0) => ?_, fun (q2 : ¬ ¬ M'.1 54 0 (6 * (b + a) + k) = 0) => ?_⟩⟩⟩
        · rw [e5] at q
          exact next 0 (by rw [al_n, if_neg (fun y => Int32.not_lt.mpr q y.1)])
        · exact next 0 (by rw [al_n, if_neg (fun y => q2 (e8.trans y.2))])
        · rw [e5] at q
          exact next 1 (by rw [al_n, if_pos ⟨Int32.not_le.mp q, e8.symm.trans (Classical.not_not.mp q2)⟩])
    exact loop (wd_n (wn τ a)) 0 (by omega)
  · have := h M' F (mR_C R)
    unfold q_alive at this
    rw [a3] at this; exact this
end
section
/-! paths of world 0: accounts of one scan are unlike; path, apart, near of the class -/
def wd_u (τ : ta) (P : Nat → Prop) (w : wd) : Prop := ∀ s, P s → ∀ e e', e < e' → e' < ta_dn τ s → wd_a w s e = wd_a w s e' → wd_a w s e = -1
theorem jp_ac_u {n m : Nat} {ps : List Nat} (hm : m ≤ 4) (hok : jp_ok n m ps) (hdi : jp_di m ps) {e e' : Nat} (h1 : e < e') (h2 : e' < m) (h : jp_ac n ps e = jp_ac n ps e') : jp_ac n ps e = -1 := by
  obtain ⟨o1, o2, o3, o4⟩ := hok
  have n1 : jp_nb ps (e + 1) ≤ jp_nb ps e' := jp_nb_le ps h1
  have n2 : jp_nb ps e' ≤ jp_nb ps m := jp_nb_le ps (by omega)
  have p1 := o2 e (by omega)
  have p2 := o2 e' h2
  have dd := hdi e e' h1 h2
  have n0 : jp_nb ps e ≤ jp_nb ps e' := jp_nb_le ps (by omega)
  by_cases c7 : am_nth ps e 9 = 7
  · unfold jp_ac; rw [if_pos c7]
  by_cases c7' : am_nth ps e' 9 = 7
  · rw [h]; unfold jp_ac; rw [if_pos c7']
  exfalso
  unfold jp_ac at h
  rw [if_neg c7, if_neg c7'] at h
  by_cases c6 : am_nth ps e 9 = 6
  · rw [if_pos c6] at h
    rw [jp_nb, if_pos c6] at n1
    by_cases c6' : am_nth ps e' 9 = 6
    · rw [if_pos c6', nI_eq (by omega) (by omega)] at h; omega
    · rw [if_neg c6', nI_eq (by omega) (by omega)] at h; omega
  · rw [if_neg c6] at h
    by_cases c6' : am_nth ps e' 9 = 6
    · rw [if_pos c6', nI_eq (by omega) (by omega)] at h; omega
    · rw [if_neg c6', nI_eq (by omega) (by omega)] at h
      have := dd h; omega
theorem wd_ap_u {τ : ta} {s c : Nat} {w : wd} {ps : List Nat} (hm : ta_dn τ s ≤ 4) (hok : jp_ok (wd_n w) (ta_dn τ s) ps) (hdi : jp_di (ta_dn τ s) ps) {P : Nat → Prop} (h : wd_u τ P w) : wd_u τ (fun s' => s' = s ∨ P s') (wd_ap τ s w c ps) := by
  intro s' hs' e e' h1 h2 h3
  have key : ∀ e, wd_a (wd_ap τ s w c ps) s' e = if s' = s then jp_ac (wd_n w) ps e else wd_a w s' e := fun _ => rfl
  rw [key, key] at h3
  rw [key]
  by_cases q : s' = s
  · rw [if_pos q, if_pos q] at h3
    rw [if_pos q]
    rw [q] at h2
    exact jp_ac_u hm hok hdi h1 h2 h3
  · rw [if_neg q, if_neg q] at h3
    rw [if_neg q]
    exact h s' (hs'.resolve_left q) e e' h1 h2 h3
theorem wd_k_u {τ : ta} (hτ : ta_ok τ) : ∀ i, i ≤ ta_n τ → ∀ j, j < (wd_k τ i).length → wd_u τ (fun s => ∃ i', i' < i ∧ od τ i' = s) (am_nth (wd_k τ i) j wd_0)
  | 0, _, j, _ => fun s hs => by obtain ⟨i', h, _⟩ := hs; omega
  | i + 1, hi, j, hj => by
    have ih := wd_k_u hτ i (by omega)
    obtain ⟨h1, h2, h3⟩ := wd_k_ok hτ i (by omega)
    have hs := (od_facts (ta_mo τ) (ta_n τ)).1 i (by omega)
    have hb := jn_best_ok hτ (s := od τ i) hs h3
    have hst := wd_step_ok hτ (s := od τ i) hs h3
    have hj' : j < (jn_best τ (od τ i) (wd_k τ i)).length := by rw [← hst.1]; exact hj
    have e := (hst.2 j hj').1
    obtain ⟨b1, b2, b3, -⟩ := hb.2.2 _ (am_nth_in (d := jn_0) hj')
    intro s hs' e1 e2 q1 q2 q3
    refine (fun (z : wd_a (am_nth (wd_step τ (od τ i) (wd_k τ i)) j wd_0) s e1 = -1) => z) ?_
    have q3 : wd_a (am_nth (wd_step τ (od τ i) (wd_k τ i)) j wd_0) s e1 = wd_a (am_nth (wd_step τ (od τ i) (wd_k τ i)) j wd_0) s e2 := q3
    rw [e] at q3 ⊢
    refine wd_ap_u (hτ.2.2.1 _ hs).2.2.1 b2 b3 (ih _ b1) s ?_ e1 e2 q1 q2 q3
    obtain ⟨i', z1, z2⟩ := hs'
    by_cases c : i' = i
    · exact Or.inl (by rw [← z2, c]; rfl)
    · exact Or.inr ⟨i', by omega, z2⟩
theorem wds_u {τ : ta} (hτ : ta_ok τ) {j : Nat} (hj : j < (wds τ).length) : wd_u τ (fun s => s < ta_n τ) (wn τ j) := by
  intro s hs
  exact wd_k_u hτ (ta_n τ) (Nat.le_refl _) j hj s ((od_facts (ta_mo τ) (ta_n τ)).2.2 s hs)
theorem lst_lt {P : Nat → Prop} : ∀ {r k e : Nat}, lst P r k = some e → k ≤ e ∧ e < k + r ∧ P e
  | 0, _, _, h => by cases h
  | r + 1, k, e, h => by
    by_cases q : P k
    · rw [lst_y q] at h; cases h; exact ⟨Nat.le_refl _, by omega, q⟩
    · rw [lst_n q] at h
      obtain ⟨h1, h2, h3⟩ := lst_lt h
      exact ⟨by omega, by omega, h3⟩
/-- the dot of a scan that a track has in world 0 -/
noncomputable def dt (τ : ta) (k : Int32) (s : Nat) : Option Nat := lst (fun e => wd_a (wn τ 0) s e = k) (ta_dn τ s) 0
theorem dt_lt {τ : ta} {k : Int32} {s e : Nat} (h : dt τ k s = some e) : e < ta_dn τ s := by have := (lst_lt h).2.1; omega
noncomputable def lt_k (τ : ta) (k m : Int32) : Nat → Option (Nat × Nat)
  | 0 => none
  | i + 1 => if nI (ta_mo τ (od τ i)) ≤ m then (match dt τ k (od τ i) with
      | some e => some (od τ i, e)
      | none => lt_k τ k m i) else lt_k τ k m i
def oP (o : Option (Nat × Nat)) : Int32 := match o with
  | some z => nI (4 * z.1 + z.2)
  | none => -1
theorem lt_lt {τ : ta} {k m : Int32} : ∀ {i : Nat} {z : Nat × Nat}, i ≤ ta_n τ → lt_k τ k m i = some z → z.1 < ta_n τ ∧ z.2 < ta_dn τ z.1
  | 0, _, _, h => by cases h
  | i + 1, z, hi, h => by
    rw [lt_k] at h
    split at h
    · split at h
      · rename_i e he
        cases h
        exact ⟨(od_facts (ta_mo τ) (ta_n τ)).1 i (by omega), dt_lt he⟩
      · exact lt_lt (by omega) h
    · exact lt_lt (by omega) h
theorem lt_stop {τ : ta} (hτ : ta_ok τ) {k m : Int32} {i : Nat} (hi : i < ta_n τ) (hm : ¬ nI (ta_mo τ (od τ i)) ≤ m) : ∀ t, i + t ≤ ta_n τ → lt_k τ k m (i + t) = lt_k τ k m i
  | 0, _ => rfl
  | t + 1, h => by
    rw [← Nat.add_assoc, lt_k, if_neg, lt_stop hτ hi hm t (by omega)]
    intro q
    have s1 := (od_facts (ta_mo τ) (ta_n τ)).2.1 i (i + t) (by omega) (by omega)
    have b := (hτ.2.2.1 _ ((od_facts (ta_mo τ) (ta_n τ)).1 (i + t) (by omega))).2.1
    exact hm (Int32.le_trans (nI_le s1 (by show ta_mo τ (od τ (i + t)) < _; have : ta_mo τ (od τ (i + t)) ≤ 999 := b; omega)) q)
def sq_of (τ : ta) (a b : Option (Nat × Nat)) : Int32 := match a, b with
  | some x, some y => (ta_rx τ x.1 x.2 - ta_rx τ y.1 y.2) * (ta_rx τ x.1 x.2 - ta_rx τ y.1 y.2) + (ta_ry τ x.1 x.2 - ta_ry τ y.1 y.2) * (ta_ry τ x.1 x.2 - ta_ry τ y.1 y.2)
  | _, _ => -1
noncomputable def sqa (τ : ta) (k j m : Int32) : Int32 := sq_of τ (lt_k τ k m (ta_n τ)) (lt_k τ j m (ta_n τ))
noncomputable def pt (τ : ta) (k : Int32) : Nat → Nat → Int32 → Int32
  | 0, _, _ => -1
  | r + 1, i, l => match dt τ k (od τ i) with
    | some e => if l = 0 then nI (4 * od τ i + e) else pt τ k r (i + 1) (l + (-1))
    | none => pt τ k r (i + 1) l
noncomputable def nr (τ : ta) (k j d : Int32) : Nat → Nat → Int32
  | 0, _ => -1
  | r + 1, i => if 0 ≤ sqa τ k j (nI (ta_mo τ (od τ i))) ∧ sqa τ k j (nI (ta_mo τ (od τ i))) ≤ d * d then nI (ta_mo τ (od τ i)) else nr τ k j d r (i + 1)
noncomputable def q_path (τ : ta) (k i : Int32) : Int32 := q_tr τ 0 k (-1) fun _ _ => if 0 ≤ i then pt τ k (ta_n τ) 0 i else -1
noncomputable def q_apart (τ : ta) (k j m : Int32) : Int32 := q_tr τ 0 k (-1) fun _ _ => q_tr τ 0 j (-1) fun _ _ => sqa τ k j m
noncomputable def q_near (τ : ta) (k j d : Int32) : Int32 := q_tr τ 0 k (-1) fun _ _ => q_tr τ 0 j (-1) fun _ _ => if (0 ≤ d ∧ d ≤ 1000) ∧ ¬ k = j then nr τ k j d (ta_n τ) 0 else -2
theorem cw_rx {X : am_X} (hX : am_Cl X) (d : Nat) (M : am_M) (τ : ta) (hτ : ta_ok τ) (hT : rc_T M τ) (s e : Nat) (hs : s < ta_n τ) (he : e < ta_dn τ s) (Q : am_P) (h : Q (some (.inl (ta_rx τ s e))) M) : X d 39 0 [some (.inr (.inl (1, 0))), some (.inl (nI s)), some (.inl (nI e))] [] M Q := by
  have b := hτ.2.2.1 s hs
  have a := hT.2.2.2.2.1 s hs
  have hn := hτ.1
  refine cw_rightX hX d M s e (ta_wt τ s) (by omega) (by omega) b.1 a.1 Q ?_
  rw [(a.2.2.2 e he).1, (hT.2.1 _ b.1).1]; exact h
theorem cw_ry {X : am_X} (hX : am_Cl X) (d : Nat) (M : am_M) (τ : ta) (hτ : ta_ok τ) (hT : rc_T M τ) (s e : Nat) (hs : s < ta_n τ) (he : e < ta_dn τ s) (Q : am_P) (h : Q (some (.inl (ta_ry τ s e))) M) : X d 40 0 [some (.inr (.inl (1, 0))), some (.inl (nI s)), some (.inl (nI e))] [] M Q := by
  have b := hτ.2.2.1 s hs
  have a := hT.2.2.2.2.1 s hs
  have hn := hτ.1
  refine cw_rightY hX d M s e (ta_wt τ s) (by omega) (by omega) b.1 a.1 Q ?_
  rw [(a.2.2.2 e he).2.1, (hT.2.1 _ b.1).2]; exact h
theorem cw_dotOfTrack {X : am_X} (hX : am_Cl X) (d : Nat) (M : am_M) (hd : 1 ≤ d) (τ : ta) (hτ : ta_ok τ) (hR : cR M τ) (s : Nat) (hs : s < ta_n τ) (k : Int32) (Q : am_P) (h : Q (some (.inl (oI (dt τ k s)))) M) : X d 27 0 [some (.inr (.inl (0, 0))), some (.inl (nI s)), some (.inl (k)), none] [] M Q := by
  have hl := wds_ok hτ
  have hn := hτ.1
  have h4 := (hτ.2.2.1 s hs).2.2.1
  have ed : M.1 18 (M.2.1 4 s) 2 = nI (ta_dn τ s) := (hR.1.2.2.2.2.1 s hs).2.2.1
  have ea : ∀ e, e < ta_dn τ s → M.1 26 (4 * M.2.1 8 0 + 0) (4 * s + e) = wd_a (wn τ 0) s e := fun e he => (cR_W hR (i := 0) (by omega)).2.2.2 s e hs he
  unfold dt at h
  refine am_go hX [2] 20 ?_
  have loop : ∀ t e : Nat, e + t = ta_dn τ s → lst (fun e => wd_a (wn τ 0) s e = k) (ta_dn τ s) 0 = lst (fun e => wd_a (wn τ 0) s e = k) t e → X d 27 2 [some (.inr (.inl (0, 0))), some (.inl (nI s)), some (.inl (k)), some (.inl (nI e))] [] M Q := by
    intro t
    induction t with
    | zero =>
      intro e he ha
      rw [ha] at h
      refine am_go hX [2] 30 ?_
      exact ⟨s, by show s < 13; omega, rfl, fun _ => h, fun (q : ¬ M.1 18 (M.2.1 4 s) 2 ≤ nI e) => absurd (by rw [ed]; exact nI_le (by omega) (by omega)) q⟩
    | succ t ih =>
      intro e he ha
      refine am_go hX [2] 30 ?_
      refine ⟨s, by show s < 13; omega, rfl, fun (q : M.1 18 (M.2.1 4 s) 2 ≤ nI e) => absurd q (by rw [ed]; exact nI_ge (by omega) (by omega)), fun _ => ⟨0, by show 0 < 4; omega, rfl, am_cc hd ?_⟩⟩
      refine cw_accountOf hX _ _ _ s e (by omega) (by omega) _ ?_
      refine ⟨fun (q : ¬ M.1 26 (4 * M.2.1 8 0 + 0) (4 * s + e) = k) => ?_, fun (q : ¬ ¬ M.1 26 (4 * M.2.1 8 0 + 0) (4 * s + e) = k) => ?_⟩
      · refine (fun (z : X d 27 2 [some (.inr (.inl (0, 0))), some (.inl (nI s)), some (.inl (k)), some (.inl (nI e + 1))] [] M Q) => z) ?_
        rw [nI_1]
        rw [ea e (by omega)] at q
        refine ih (e + 1) (by omega) ?_
        rw [ha, lst_n (P := fun e => wd_a (wn τ 0) s e = k) q]
      · rw [ea e (by omega)] at q
        rw [ha, lst_y (P := fun e => wd_a (wn τ 0) s e = k) (Classical.not_not.mp q)] at h
        exact h
  exact loop (ta_dn τ s) 0 (by omega) rfl
theorem cw_latestDot {X : am_X} (hX : am_Cl X) (d : Nat) (M : am_M) (hd : 2 ≤ d) (τ : ta) (hτ : ta_ok τ) (hR : cR M τ) (k m : Int32) (Q : am_P) (h : Q (some (.inl (oP (lt_k τ k m (ta_n τ))))) M) : X d 28 0 [some (.inr (.inl (0, 0))), some (.inl (k)), some (.inl (m)), none, none, none, none] [] M Q := by
  have hn := hτ.1
  have e2 : M.1 1 0 2 = nI (ta_n τ) := hR.1.1
  refine am_go hX [4] 20 ?_
  have loop : ∀ t i : Nat, i + t = ta_n τ → ∀ z5 z6, X d 28 4 [some (.inr (.inl (0, 0))), some (.inl (k)), some (.inl (m)), some (.inl (oP (lt_k τ k m i))), some (.inl (nI i)), z5, z6] [] M Q := by
    intro t
    induction t with
    | zero =>
      intro i hi z5 z6
      have hi : i = ta_n τ := by omega
      rw [hi]
      refine am_go hX [4] 60 ?_
      exact ⟨fun _ => h, fun (q : ¬ M.1 1 0 2 ≤ nI (ta_n τ)) => absurd (by rw [e2]; exact nI_le (Nat.le_refl _) (by omega)) q⟩
    | succ t ih =>
      intro i hi z5 z6
      have hin : i < ta_n τ := by omega
      have hs := (od_facts (ta_mo τ) (ta_n τ)).1 i hin
      have ho : M.1 5 0 i = nI (od τ i) := hR.2.2.1 i hin
      have em : M.1 18 (M.2.1 4 (od τ i)) 1 = nI (ta_mo τ (od τ i)) := (hR.1.2.2.2.2.1 _ hs).2.1
      have next : ∀ o z5 z6, o = lt_k τ k m (i + 1) → X d 28 4 [some (.inr (.inl (0, 0))), some (.inl (k)), some (.inl (m)), some (.inl (oP o)), some (.inl (nI i + 1)), z5, z6] [] M Q := by
        intro o z5 z6 e
        rw [nI_1, e]
        exact ih (i + 1) (by omega) z5 z6
      refine am_go hX [4] 60 ?_
      refine ⟨fun (q : M.1 1 0 2 ≤ nI i) => absurd q (by rw [e2]; exact nI_ge hin (by omega)), fun _ => ⟨i, by show i < 12; omega, rfl, od τ i, by show od τ i < 13; have : od τ i < ta_n τ := hs; omega, ho, fun (q : M.1 18 (M.2.1 4 (od τ i)) 1 ≤ m) => am_cc (by omega) ?_, fun (q : ¬ M.1 18 (M.2.1 4 (od τ i)) 1 ≤ m) => ?_⟩⟩
      · rw [em] at q
        refine (fun (z : X (d - 1) 27 0 [some (.inr (.inl (0, 0))), some (.inl (M.1 5 0 i)), some (.inl (k)), none] [] M _) => z) ?_
        rw [ho]
        refine cw_dotOfTrack hX _ _ (by omega) τ hτ hR (od τ i) hs k _ ?_
        cases hdt : dt τ k (od τ i) with
        | none =>
          refine ⟨fun _ => ?_, fun (y : ¬ (-1 : Int32) < 0) => absurd (by decide) y⟩
          exact next (lt_k τ k m i) _ _ (by rw [lt_k, if_pos q, hdt])
        | some e =>
          have he := dt_lt hdt
          have h4 : ta_dn τ (od τ i) ≤ 4 := (hτ.2.2.1 _ hs).2.2.1
          have hs' : od τ i < ta_n τ := hs
          have ix : 4 * M.1 5 0 i + nI e = nI (4 * od τ i + e) := by rw [ho, show (4 : Int32) = nI 4 from rfl, pk_mul, nI_add]
          refine ⟨fun (y : nI e < 0) => absurd y (nI_pos (by omega)), fun _ => ?_⟩
          refine (fun (z : X d 28 4 [some (.inr (.inl (0, 0))), some (.inl (k)), some (.inl (m)), some (.inl (4 * M.1 5 0 i + nI e)), some (.inl (nI i + 1)), some (.inl (M.1 5 0 i)), some (.inl (nI e))] [] M Q) => z) ?_
          rw [ix]
          exact next (some (od τ i, e)) _ _ (by rw [lt_k, if_pos q, hdt])
      · rw [em] at q
        have z := lt_stop hτ (k := k) hin q (t + 1) (by omega)
        rw [hi] at z
        rw [z] at h
        exact h
  exact loop (ta_n τ) 0 (by omega) none none
theorem iz_d4 {s e : Nat} (hs : s < 12) (he : e < 4) : nI (4 * s + e) / 4 = nI s ∧ nI (4 * s + e) - nI (4 * s + e) / 4 * 4 = nI e := by
  have e1 := pk_div (a := 4 * s + e) (d := 4) (by omega) (by omega) (by omega)
  have e2 := pk_rem (a := 4 * s + e) (d := 4) (by omega) (by omega) (by omega)
  rw [show (4 * s + e) / 4 = s by omega] at e1
  rw [show (4 * s + e) % 4 = e by omega] at e2
  exact ⟨e1, e2⟩
set_option maxHeartbeats 1000000 in
theorem cw_squareApart {X : am_X} (hX : am_Cl X) (d : Nat) (M : am_M) (hd : 3 ≤ d) (τ : ta) (hτ : ta_ok τ) (hR : cR M τ) (k j m : Int32) (Q : am_P) (h : Q (some (.inl (sqa τ k j m))) M) : X d 29 0 [some (.inr (.inl (0, 0))), some (.inl (k)), some (.inl (j)), some (.inl (m)), none, none, none, none] [] M Q := by
  have hn := hτ.1
  unfold sqa at h
  refine am_go hX [16] 40 ?_
  refine am_cc (by omega) (cw_latestDot hX _ _ (by omega) τ hτ hR k m _ (am_cc (by omega) (cw_latestDot hX _ _ (by omega) τ hτ hR j m _ ?_)))
  have la := fun z => lt_lt (τ := τ) (k := k) (m := m) (i := ta_n τ) (z := z) (Nat.le_refl _)
  have lb := fun z => lt_lt (τ := τ) (k := j) (m := m) (i := ta_n τ) (z := z) (Nat.le_refl _)
  generalize lt_k τ k m (ta_n τ) = A at h la ⊢
  generalize lt_k τ j m (ta_n τ) = B at h lb ⊢
  cases A with
  | none => exact ⟨fun _ => h, fun (y : ¬ (-1 : Int32) < 0) => absurd (by decide) y⟩
  | some a =>
    obtain ⟨a1, a2⟩ := la a rfl
    have a4 := (hτ.2.2.1 _ a1).2.2.1
    refine ⟨fun (y : nI (4 * a.1 + a.2) < 0) => absurd y (nI_pos (by omega)), fun _ => ?_⟩
    cases B with
    | none => exact ⟨fun (y : (0 : Int32) ≤ -1) => absurd y (by decide), fun _ => h⟩
    | some b =>
      obtain ⟨b1, b2⟩ := lb b rfl
      have b4 := (hτ.2.2.1 _ b1).2.2.1
      refine ⟨fun _ => ?_, fun (y : ¬ (0 : Int32) ≤ nI (4 * b.1 + b.2)) => absurd (nI_pos' (by omega)) y⟩
      refine (fun (z : X d 29 16 [some (.inr (.inl (0, 0))), some (.inl (k)), some (.inl (j)), some (.inl (m)), some (.inl (nI (4 * a.1 + a.2))), some (.inl (nI (4 * b.1 + b.2))), none, none] [] M Q) => z) ?_
      obtain ⟨da, ma⟩ := iz_d4 (s := a.1) (e := a.2) (by omega) (by omega)
      obtain ⟨db, mb⟩ := iz_d4 (s := b.1) (e := b.2) (by omega) (by omega)
      refine am_go hX [] 60 ?_
      have r1 : ∀ Q', Q' (some (.inl (ta_rx τ a.1 a.2))) M → X (d - 1) 39 0 [some (.inr (.inl (1, 0))), some (.inl (nI (4 * a.1 + a.2) / 4)), some (.inl (nI (4 * a.1 + a.2) - nI (4 * a.1 + a.2) / 4 * 4))] [] M Q' := fun Q' h => by rw [ma, da]; exact cw_rx hX _ _ τ hτ hR.1 _ _ a1 a2 Q' h
      have r2 : ∀ Q', Q' (some (.inl (ta_rx τ b.1 b.2))) M → X (d - 1) 39 0 [some (.inr (.inl (1, 0))), some (.inl (nI (4 * b.1 + b.2) / 4)), some (.inl (nI (4 * b.1 + b.2) - nI (4 * b.1 + b.2) / 4 * 4))] [] M Q' := fun Q' h => by rw [mb, db]; exact cw_rx hX _ _ τ hτ hR.1 _ _ b1 b2 Q' h
      have r3 : ∀ Q', Q' (some (.inl (ta_ry τ a.1 a.2))) M → X (d - 1) 40 0 [some (.inr (.inl (1, 0))), some (.inl (nI (4 * a.1 + a.2) / 4)), some (.inl (nI (4 * a.1 + a.2) - nI (4 * a.1 + a.2) / 4 * 4))] [] M Q' := fun Q' h => by rw [ma, da]; exact cw_ry hX _ _ τ hτ hR.1 _ _ a1 a2 Q' h
      have r4 : ∀ Q', Q' (some (.inl (ta_ry τ b.1 b.2))) M → X (d - 1) 40 0 [some (.inr (.inl (1, 0))), some (.inl (nI (4 * b.1 + b.2) / 4)), some (.inl (nI (4 * b.1 + b.2) - nI (4 * b.1 + b.2) / 4 * 4))] [] M Q' := fun Q' h => by rw [mb, db]; exact cw_ry hX _ _ τ hτ hR.1 _ _ b1 b2 Q' h
      refine ⟨by decide, by decide, am_cc (by omega) (r1 _ ?_)⟩
      refine ⟨by decide, by decide, am_cc (by omega) (r2 _ ?_)⟩
      refine ⟨by decide, by decide, am_cc (by omega) (r3 _ ?_)⟩
      refine ⟨by decide, by decide, am_cc (by omega) (r4 _ ?_)⟩
      exact h
theorem cw_path {X : am_X} (hX : am_Cl X) (d : Nat) (M : am_M) (hd : 10 ≤ d) (τ : ta) (hτ : ta_ok τ) (hC : cC M τ) (k i : Int32) (Q : am_P) (h : ∀ M', rc_F M M' → cC M' τ → Q (some (.inl (q_path τ k i))) M') : X d 18 0 [some (.inr (.inl (0, 0))), some (.inl (k)), some (.inl (i)), none, none, none, none] [] M Q := by
  have hn := hτ.1
  refine am_go hX [19] 40 ?_
  refine am_cc (by omega) (cw_fresh hX _ _ (by omega) τ hτ hC _ (fun M' F R => ?_))
  have := h M' F (cR_C R)
  unfold q_path at this
  refine am_cc (by omega) (cw_isTrack hX _ _ (by omega) τ hτ R 0 k _ (fun a b a1 b1 a2 b2 a3 b3 => am_beq1 ?_) (fun z => am_beq0 ?_))
  · rw [q_tr_at a3 b3] at this
    refine ⟨fun (q : 0 ≤ i) => ?_, fun (q : ¬ 0 ≤ i) => ?_⟩
    · rw [if_pos q] at this
      have e2 : M'.1 1 0 2 = nI (ta_n τ) := R.1.1
      have loop : ∀ t n : Nat, n + t = ta_n τ → ∀ l z5 z6, pt τ k (ta_n τ) 0 i = pt τ k t n l → X d 18 19 [some (.inr (.inl (0, 0))), some (.inl (k)), some (.inl (i)), some (.inl (l)), some (.inl (nI n)), z5, z6] [] M' Q := by
        intro t
        induction t with
        | zero =>
          intro n hn' l z5 z6 ha
          rw [ha] at this
          refine am_go hX [19] 60 ?_
          exact ⟨fun _ => this, fun (q : ¬ M'.1 1 0 2 ≤ nI n) => absurd (by rw [e2]; exact nI_le (by omega) (by omega)) q⟩
        | succ t ih =>
          intro n hn' l z5 z6 ha
          have hin : n < ta_n τ := by omega
          have hs := (od_facts (ta_mo τ) (ta_n τ)).1 n hin
          have ho : M'.1 5 0 n = nI (od τ n) := R.2.2.1 n hin
          have next : ∀ l z5 z6, pt τ k (ta_n τ) 0 i = pt τ k t (n + 1) l → X d 18 19 [some (.inr (.inl (0, 0))), some (.inl (k)), some (.inl (i)), some (.inl (l)), some (.inl (nI n + 1)), z5, z6] [] M' Q := by
            intro l z5 z6 e
            rw [nI_1]
            exact ih (n + 1) (by omega) l z5 z6 e
          refine am_go hX [19] 60 ?_
          refine ⟨fun (q : M'.1 1 0 2 ≤ nI n) => absurd q (by rw [e2]; exact nI_ge hin (by omega)), fun _ => ⟨n, by show n < 12; omega, rfl, am_cc (by omega) ?_⟩⟩
          refine (fun (z : X (d - 1) 27 0 [some (.inr (.inl (0, 0))), some (.inl (M'.1 5 0 n)), some (.inl (k)), none] [] M' _) => z) ?_
          rw [ho]
          refine cw_dotOfTrack hX _ _ (by omega) τ hτ R (od τ n) hs k _ ?_
          cases hdt : dt τ k (od τ n) with
          | none =>
            refine ⟨fun _ => ?_, fun (y : ¬ (-1 : Int32) < 0) => absurd (by decide) y⟩
            exact next l _ _ (by rw [ha, pt, hdt])
          | some e =>
            have he := dt_lt hdt
            have h4 : ta_dn τ (od τ n) ≤ 4 := (hτ.2.2.1 _ hs).2.2.1
            have hs' : od τ n < ta_n τ := hs
            have ix : 4 * M'.1 5 0 n + nI e = nI (4 * od τ n + e) := by rw [ho, show (4 : Int32) = nI 4 from rfl, pk_mul, nI_add]
            refine ⟨fun (y : nI e < 0) => absurd y (nI_pos (by omega)), fun _ => ⟨fun (y : ¬ l = 0) => ?_, fun (y : ¬ ¬ l = 0) => ?_⟩⟩
            · exact next (l + (-1)) _ _ (by rw [ha, pt, hdt]; exact if_neg y)
            · rw [ha, pt, hdt] at this
              have this : Q (some (.inl (if l = 0 then nI (4 * od τ n + e) else pt τ k t (n + 1) (l + (-1))))) M' := this
              rw [if_pos (Classical.not_not.mp y), ← ix] at this
              exact this
      exact loop (ta_n τ) 0 (by omega) i none none rfl
    · rw [if_neg q] at this; exact this
  · rw [q_tr_no z] at this; exact this
theorem cw_apart {X : am_X} (hX : am_Cl X) (d : Nat) (M : am_M) (hd : 10 ≤ d) (τ : ta) (hτ : ta_ok τ) (hC : cC M τ) (k j m : Int32) (Q : am_P) (h : ∀ M', rc_F M M' → cC M' τ → Q (some (.inl (q_apart τ k j m))) M') : X d 19 0 [some (.inr (.inl (0, 0))), some (.inl (k)), some (.inl (j)), some (.inl (m))] [] M Q := by
  refine am_go hX [] 40 ?_
  refine am_cc (by omega) (cw_fresh hX _ _ (by omega) τ hτ hC _ (fun M' F R => ?_))
  have := h M' F (cR_C R)
  unfold q_apart at this
  refine am_cc (by omega) (cw_isTrack hX _ _ (by omega) τ hτ R 0 k _ (fun a b a1 b1 a2 b2 a3 b3 => am_beq1 (am_cc (by omega) ?_)) (fun z => am_beq0 ?_))
  · rw [q_tr_at a3 b3] at this
    refine cw_isTrack hX _ _ (by omega) τ hτ R 0 j _ (fun a b a1 b1 a2 b2 a3 b3 => am_bne1 (am_cc (by omega) ?_)) (fun z => am_bne0 ?_)
    · rw [q_tr_at a3 b3] at this
      exact cw_squareApart hX _ _ (by omega) τ hτ R k j m _ this
    · rw [q_tr_no z] at this; exact this
  · rw [q_tr_no z] at this; exact this
theorem cw_near {X : am_X} (hX : am_Cl X) (d : Nat) (M : am_M) (hd : 10 ≤ d) (τ : ta) (hτ : ta_ok τ) (hC : cC M τ) (k j m : Int32) (Q : am_P) (h : ∀ M', rc_F M M' → cC M' τ → Q (some (.inl (q_near τ k j m))) M') : X d 20 0 [some (.inr (.inl (0, 0))), some (.inl (k)), some (.inl (j)), some (.inl (m)), none, none, none] [] M Q := by
  have hn := hτ.1
  refine am_go hX [31] 40 ?_
  refine am_cc (by omega) (cw_fresh hX _ _ (by omega) τ hτ hC _ (fun M' F R => ?_))
  have := h M' F (cR_C R)
  unfold q_near at this
  refine am_cc (by omega) (cw_isTrack hX _ _ (by omega) τ hτ R 0 k _ (fun a b a1 b1 a2 b2 a3 b3 => am_beq1 (am_cc (by omega) ?_)) (fun z => am_beq0 ?_))
  · rw [q_tr_at a3 b3] at this
    refine cw_isTrack hX _ _ (by omega) τ hτ R 0 j _ (fun a b a1 b1 a2 b2 a3 b3 => am_bne1 (am_cc (by omega) ?_)) (fun z => am_bne0 ?_)
    · rw [q_tr_at a3 b3] at this
      refine cw_within hX _ _ _ _ _ _ (fun m1 m2 => am_beq1 ⟨fun (q : ¬ k = j) => ?_, fun (q : ¬ ¬ k = j) => ?_⟩) (fun z => am_beq0 ?_)
      · rw [if_pos ⟨⟨m1, m2⟩, q⟩] at this
        have e2 : M'.1 1 0 2 = nI (ta_n τ) := R.1.1
        have loop : ∀ t n : Nat, n + t = ta_n τ → ∀ z5 z6, nr τ k j m (ta_n τ) 0 = nr τ k j m t n → X d 20 31 [some (.inr (.inl (0, 0))), some (.inl (k)), some (.inl (j)), some (.inl (m)), some (.inl (nI n)), z5, z6] [] M' Q := by
          intro t
          induction t with
          | zero =>
            intro n hn' z5 z6 ha
            rw [ha] at this
            refine am_go hX [31] 60 ?_
            exact ⟨fun _ => this, fun (q : ¬ M'.1 1 0 2 ≤ nI n) => absurd (by rw [e2]; exact nI_le (by omega) (by omega)) q⟩
          | succ t ih =>
            intro n hn' z5 z6 ha
            have hin : n < ta_n τ := by omega
            have hs := (od_facts (ta_mo τ) (ta_n τ)).1 n hin
            have ho : M'.1 5 0 n = nI (od τ n) := R.2.2.1 n hin
            have em : M'.1 18 (M'.2.1 4 (od τ n)) 1 = nI (ta_mo τ (od τ n)) := (R.1.2.2.2.2.1 _ hs).2.1
            have next : ∀ z5 z6, nr τ k j m (ta_n τ) 0 = nr τ k j m t (n + 1) → X d 20 31 [some (.inr (.inl (0, 0))), some (.inl (k)), some (.inl (j)), some (.inl (m)), some (.inl (nI n + 1)), z5, z6] [] M' Q := by
              intro z5 z6 e
              rw [nI_1]
              exact ih (n + 1) (by omega) z5 z6 e
            refine am_go hX [31] 60 ?_
            refine ⟨fun (q : M'.1 1 0 2 ≤ nI n) => absurd q (by rw [e2]; exact nI_ge hin (by omega)), fun _ => ⟨n, by show n < 12; omega, rfl, od τ n, by show od τ n < 13; have : od τ n < ta_n τ := hs; omega, ho, am_cc (by omega) ?_⟩⟩
            refine (fun (z : X (d - 1) 29 0 [some (.inr (.inl (0, 0))), some (.inl (k)), some (.inl (j)), some (.inl (M'.1 18 (M'.2.1 4 (od τ n)) 1)), none, none, none, none] [] M' _) => z) ?_
            rw [em]
            refine cw_squareApart hX _ _ (by omega) τ hτ R k j _ _ ?_
            have hnr : nr τ k j m (ta_n τ) 0 = if 0 ≤ sqa τ k j (nI (ta_mo τ (od τ n))) ∧ sqa τ k j (nI (ta_mo τ (od τ n))) ≤ m * m then nI (ta_mo τ (od τ n)) else nr τ k j m t (n + 1) := by rw [ha, nr]
            refine ⟨fun (y : sqa τ k j (nI (ta_mo τ (od τ n))) < 0) => ?_, fun (y : ¬ sqa τ k j (nI (ta_mo τ (od τ n))) < 0) => ⟨fun (w : m * m < sqa τ k j (nI (ta_mo τ (od τ n)))) => ?_, fun (w : ¬ m * m < sqa τ k j (nI (ta_mo τ (od τ n)))) => ?_⟩⟩
            · exact next _ _ (by rw [hnr, if_neg (fun v => Int32.not_le.mpr y v.1)])
            · exact next _ _ (by rw [hnr, if_neg (fun v => Int32.not_le.mpr w v.2)])
            · rw [hnr, if_pos ⟨Int32.not_lt.mp y, Int32.not_lt.mp w⟩] at this
              refine (fun (z : Q (some (.inl (M'.1 18 (M'.2.1 4 (od τ n)) 1))) M') => z) ?_
              rw [em]; exact this
        exact loop (ta_n τ) 0 (by omega) none none rfl
      · rw [if_neg (fun z => q z.2)] at this; exact this
      · rw [if_neg (fun q => z q.1)] at this; exact this
    · rw [q_tr_no z] at this; exact this
  · rw [q_tr_no z] at this; exact this
end
section
/-! paths of world 0: the reference -/
theorem lst_skip {P : Nat → Prop} : ∀ {r k : Nat}, ¬ P (k + r) → lst P (r + 1) k = lst P r k
  | 0, k, h => lst_n h
  | r + 1, k, h => by
    by_cases q : P k
    · rw [lst_y q, lst_y q]
    · rw [lst_n q, lst_n q, lst_skip (by rw [show k + 1 + r = k + (r + 1) by omega]; exact h)]
theorem lst_new {P : Nat → Prop} : ∀ {r k : Nat}, (∀ j, k ≤ j → j < k + r → ¬ P j) → P (k + r) → lst P (r + 1) k = some (k + r)
  | 0, k, _, h => lst_y h
  | r + 1, k, hn, h => by
    rw [lst_n (hn k (Nat.le_refl k) (by omega)), lst_new (fun j h1 h2 => hn j (by omega) (by omega)) (by rw [show k + 1 + r = k + (r + 1) by omega]; exact h), show k + 1 + r = k + (r + 1) by omega]
noncomputable def lt_i (τ : ta) (k m : Int32) (i e : Nat) : Option (Nat × Nat) := if nI (ta_mo τ (od τ i)) ≤ m then (match lst (fun e => wd_a (wn τ 0) (od τ i) e = k) e 0 with
      | some e => some (od τ i, e)
      | none => lt_k τ k m i) else lt_k τ k m i
theorem lt_i_0 (τ : ta) (k m : Int32) (i : Nat) : lt_i τ k m i 0 = lt_k τ k m i := by unfold lt_i; split <;> rfl
theorem lt_i_n (τ : ta) (k m : Int32) (i : Nat) : lt_i τ k m i (ta_dn τ (od τ i)) = lt_k τ k m (i + 1) := rfl
theorem dt_uni {τ : ta} (hτ : ta_ok τ) {k : Int32} (hk : ¬ k = -1) {s e e' : Nat} (hs : s < ta_n τ) (h1 : e < e') (h2 : e' < ta_dn τ s) (h3 : wd_a (wn τ 0) s e' = k) : ¬ wd_a (wn τ 0) s e = k := by
  intro z
  have := wds_u hτ (j := 0) (by have := (wds_ok hτ).1; omega) s hs e e' h1 h2 (z.trans h3.symm)
  exact hk (z.symm.trans this)
theorem iz_nm1 {b : Nat} (h : b < 6) : ¬ nI b = -1 := by
  intro q
  have := congrArg Int32.toInt q
  rw [nI_toInt (by omega), show (-1 : Int32).toInt = -1 by decide] at this
  omega
set_option maxHeartbeats 1000000 in
theorem cm_latest {X : am_X} (hX : am_Cl X) (d : Nat) (M : am_M) (hd : 1 ≤ d) (τ : ta) (hτ : ta_ok τ) (hR : mR M τ) (k m : Int32) (hk : ¬ k = -1) (Q : am_P) (h : Q (some (.inl (oP (lt_k τ k m (ta_n τ))))) M) : X d 124 0 [some (.inr (.inl (28, 0))), some (.inl (k)), some (.inl (m)), none, none, none] [] M Q := by
  have hn := hτ.1
  have hl := wds_ok hτ
  have e1 : M.1 28 0 1 = nI (ta_n τ) := hR.1.1
  refine am_go hX [4] 20 ?_
  have loop : ∀ t i : Nat, i + t = ta_n τ → ∀ z5, X d 124 4 [some (.inr (.inl (28, 0))), some (.inl (k)), some (.inl (m)), some (.inl (oP (lt_k τ k m i))), some (.inl (nI i)), z5] [] M Q := by
    intro t
    induction t with
    | zero =>
      intro i hi z5
      have hi : i = ta_n τ := by omega
      rw [hi]
      refine am_go hX [4] 60 ?_
      exact ⟨fun _ => h, fun (q : ¬ M.1 28 0 1 ≤ nI (ta_n τ)) => absurd (by rw [e1]; exact nI_le (Nat.le_refl _) (by omega)) q⟩
    | succ t ih =>
      intro i hi z5
      have hin : i < ta_n τ := by omega
      have hs : od τ i < ta_n τ := (od_facts (ta_mo τ) (ta_n τ)).1 i hin
      have ho : M.1 42 0 i = nI (od τ i) := hR.2.2.1 i hin
      have hT := hR.1.2.2.1 _ hs
      have em : M.1 32 0 (od τ i) = nI (ta_mo τ (od τ i)) := hT.2.1
      have ed : M.1 33 0 (od τ i) = nI (ta_dn τ (od τ i)) := hT.2.2.1
      have h4 := (hτ.2.2.1 _ hs).2.2.1
      have i12 : i < 12 := by omega
      have s12 : od τ i < 12 := by omega
      have inner : ∀ r e : Nat, e + r = ta_dn τ (od τ i) → X d 124 10 [some (.inr (.inl (28, 0))), some (.inl (k)), some (.inl (m)), some (.inl (oP (lt_i τ k m i e))), some (.inl (nI i)), some (.inl (nI e))] [] M Q := by
        intro r
        induction r with
        | zero =>
          intro e he
          have he : e = ta_dn τ (od τ i) := by omega
          refine am_go hX [4] 60 ?_
          refine ⟨i, i12, rfl, od τ i, s12, ho, fun _ => ?_, fun (q : ¬ M.1 33 0 (od τ i) ≤ nI e) => absurd (by rw [ed, he]; exact nI_le (Nat.le_refl _) (by omega)) q⟩
          refine (fun (z : X d 124 4 [some (.inr (.inl (28, 0))), some (.inl (k)), some (.inl (m)), some (.inl (oP (lt_i τ k m i e))), some (.inl (nI i + 1)), some (.inl (nI e))] [] M Q) => z) ?_
          rw [nI_1, he, lt_i_n]
          exact ih (i + 1) (by omega) _
        | succ r ihr =>
          intro e he
          have het : e < ta_dn τ (od τ i) := by omega
          have next : ∀ o, o = lt_i τ k m i (e + 1) → X d 124 10 [some (.inr (.inl (28, 0))), some (.inl (k)), some (.inl (m)), some (.inl (oP o)), some (.inl (nI i)), some (.inl (nI e + 1))] [] M Q := by
            intro o eo
            rw [nI_1, eo]
            exact ihr (e + 1) (by omega)
          refine am_go hX [10, 4] 60 ?_
          refine ⟨i, i12, rfl, od τ i, s12, ho, fun (q : M.1 33 0 (od τ i) ≤ nI e) => absurd q (by rw [ed]; exact nI_ge het (by omega)), fun _ => ⟨i, i12, rfl, od τ i, s12, ho, fun (q : m < M.1 32 0 (od τ i)) => ?_, fun (q : ¬ m < M.1 32 0 (od τ i)) => ⟨i, i12, rfl, am_cc hd ?_⟩⟩⟩
          · rw [em] at q
            exact next (lt_i τ k m i e) (by unfold lt_i; rw [if_neg (Int32.not_le.mpr q), if_neg (Int32.not_le.mpr q)])
          · rw [em] at q
            have q := Int32.not_lt.mp q
            refine (fun (z : X (d - 1) 115 0 [some (.inr (.inl (28, 0))), some (.inl (nI 0)), some (.inl (M.1 42 0 i)), some (.inl (nI e))] [] M _) => z) ?_
            rw [ho]
            refine cm_accountOf hX _ _ τ hτ hR 0 (od τ i) e (by omega) hs het _ ?_
            refine ⟨fun (y : ¬ wd_a (wn τ 0) (od τ i) e = k) => ?_, fun (y : ¬ ¬ wd_a (wn τ 0) (od τ i) e = k) => ⟨i, i12, rfl, ?_⟩⟩
            · exact next (lt_i τ k m i e) (by unfold lt_i; rw [if_pos q, if_pos q, lst_skip (P := fun e => wd_a (wn τ 0) (od τ i) e = k) (by rw [Nat.zero_add]; exact y)])
            · have y := Classical.not_not.mp y
              have ix : 4 * M.1 42 0 i + nI e = nI (4 * od τ i + e) := by rw [ho, show (4 : Int32) = nI 4 from rfl, pk_mul, nI_add]
              refine (fun (z : X d 124 10 [some (.inr (.inl (28, 0))), some (.inl (k)), some (.inl (m)), some (.inl (4 * M.1 42 0 i + nI e)), some (.inl (nI i)), some (.inl (nI e + 1))] [] M Q) => z) ?_
              rw [ix]
              refine next (some (od τ i, e)) ?_
              unfold lt_i
              rw [if_pos q, lst_new (P := fun e => wd_a (wn τ 0) (od τ i) e = k) (fun j _ hj => dt_uni hτ hk hs (by omega) het y) (by rw [Nat.zero_add]; exact y), Nat.zero_add]
      refine am_go hX [10] 60 ?_
      refine ⟨fun (q : M.1 28 0 1 ≤ nI i) => absurd q (by rw [e1]; exact nI_ge hin (by omega)), fun _ => ?_⟩
      have := inner (ta_dn τ (od τ i)) 0 (by omega)
      rw [lt_i_0] at this
      exact this
  exact loop (ta_n τ) 0 (by omega) none
set_option maxHeartbeats 1000000 in
theorem cm_apartAt {X : am_X} (hX : am_Cl X) (d : Nat) (M : am_M) (hd : 2 ≤ d) (τ : ta) (hτ : ta_ok τ) (hR : mR M τ) (k j m : Int32) (hk : ¬ k = -1) (hj : ¬ j = -1) (Q : am_P) (h : Q (some (.inl (sqa τ k j m))) M) : X d 125 0 [some (.inr (.inl (28, 0))), some (.inl (k)), some (.inl (j)), some (.inl (m)), none, none, none, none] [] M Q := by
  have hn := hτ.1
  unfold sqa at h
  refine am_go hX [16] 40 ?_
  refine am_cc (by omega) (cm_latest hX _ _ (by omega) τ hτ hR k m hk _ (am_cc (by omega) (cm_latest hX _ _ (by omega) τ hτ hR j m hj _ ?_)))
  have la := fun z => lt_lt (τ := τ) (k := k) (m := m) (i := ta_n τ) (z := z) (Nat.le_refl _)
  have lb := fun z => lt_lt (τ := τ) (k := j) (m := m) (i := ta_n τ) (z := z) (Nat.le_refl _)
  generalize lt_k τ k m (ta_n τ) = A at h la ⊢
  generalize lt_k τ j m (ta_n τ) = B at h lb ⊢
  cases A with
  | none => exact ⟨fun _ => h, fun (y : ¬ (-1 : Int32) < 0) => absurd (by decide) y⟩
  | some a =>
    obtain ⟨a1, a2⟩ := la a rfl
    have a4 := (hτ.2.2.1 _ a1).2.2.1
    refine ⟨fun (y : nI (4 * a.1 + a.2) < 0) => absurd y (nI_pos (by omega)), fun _ => ?_⟩
    cases B with
    | none => exact ⟨fun (y : (0 : Int32) ≤ -1) => absurd y (by decide), fun _ => h⟩
    | some b =>
      obtain ⟨b1, b2⟩ := lb b rfl
      have b4 := (hτ.2.2.1 _ b1).2.2.1
      refine ⟨fun _ => ?_, fun (y : ¬ (0 : Int32) ≤ nI (4 * b.1 + b.2)) => absurd (nI_pos' (by omega)) y⟩
      refine (fun (z : X d 125 16 [some (.inr (.inl (28, 0))), some (.inl (k)), some (.inl (j)), some (.inl (m)), some (.inl (nI (4 * a.1 + a.2))), some (.inl (nI (4 * b.1 + b.2))), none, none] [] M Q) => z) ?_
      obtain ⟨da, ma⟩ := iz_d4 (s := a.1) (e := a.2) (by omega) (by omega)
      obtain ⟨db, mb⟩ := iz_d4 (s := b.1) (e := b.2) (by omega) (by omega)
      refine am_go hX [] 60 ?_
      have r1 : ∀ Q', Q' (some (.inl (ta_rx τ a.1 a.2))) M → X (d - 1) 94 0 [some (.inr (.inl (28, 0))), some (.inl (nI (4 * a.1 + a.2) / 4)), some (.inl (nI (4 * a.1 + a.2) - nI (4 * a.1 + a.2) / 4 * 4))] [] M Q' := fun Q' h => by rw [ma, da]; exact cm_rightX hX _ _ τ hτ hR.1 _ _ a1 a2 Q' h
      have r2 : ∀ Q', Q' (some (.inl (ta_rx τ b.1 b.2))) M → X (d - 1) 94 0 [some (.inr (.inl (28, 0))), some (.inl (nI (4 * b.1 + b.2) / 4)), some (.inl (nI (4 * b.1 + b.2) - nI (4 * b.1 + b.2) / 4 * 4))] [] M Q' := fun Q' h => by rw [mb, db]; exact cm_rightX hX _ _ τ hτ hR.1 _ _ b1 b2 Q' h
      have r3 : ∀ Q', Q' (some (.inl (ta_ry τ a.1 a.2))) M → X (d - 1) 95 0 [some (.inr (.inl (28, 0))), some (.inl (nI (4 * a.1 + a.2) / 4)), some (.inl (nI (4 * a.1 + a.2) - nI (4 * a.1 + a.2) / 4 * 4))] [] M Q' := fun Q' h => by rw [ma, da]; exact cm_rightY hX _ _ τ hτ hR.1 _ _ a1 a2 Q' h
      have r4 : ∀ Q', Q' (some (.inl (ta_ry τ b.1 b.2))) M → X (d - 1) 95 0 [some (.inr (.inl (28, 0))), some (.inl (nI (4 * b.1 + b.2) / 4)), some (.inl (nI (4 * b.1 + b.2) - nI (4 * b.1 + b.2) / 4 * 4))] [] M Q' := fun Q' h => by rw [mb, db]; exact cm_rightY hX _ _ τ hτ hR.1 _ _ b1 b2 Q' h
      refine ⟨by decide, by decide, am_cc (by omega) (r1 _ ?_)⟩
      refine ⟨by decide, by decide, am_cc (by omega) (r2 _ ?_)⟩
      refine ⟨by decide, by decide, am_cc (by omega) (r3 _ ?_)⟩
      refine ⟨by decide, by decide, am_cc (by omega) (r4 _ ?_)⟩
      exact h
theorem cm_apartQ {X : am_X} (hX : am_Cl X) (d : Nat) (M : am_M) (hd : 7 ≤ d) (τ : ta) (hτ : ta_ok τ) (hC : mC M τ) (k j m : Int32) (Q : am_P) (h : ∀ M', rm_F M M' → mC M' τ → Q (some (.inl (q_apart τ k j m))) M') : X d 126 0 [some (.inr (.inl (28, 0))), some (.inl (k)), some (.inl (j)), some (.inl (m))] [] M Q := by
  refine am_go hX [] 40 ?_
  refine am_cc (by omega) (cm_isTrack hX _ _ (by omega) τ hτ hC 0 k _ (fun M' F R a b a1 b1 a2 b2 a3 b3 => am_beq1 (am_cc (by omega) ?_)) (fun M' F R z => am_beq0 ?_))
  · refine cm_isTrack hX _ _ (by omega) τ hτ (mR_C R) 0 j _ (fun M2 F2 R2 a' b' a1' b1' a2' b2' a3' b3' => am_beq1 (am_cc (by omega) ?_)) (fun M2 F2 R2 z => am_beq0 ?_)
    · have := h M2 (rm_F_tr F F2) (mR_C R2)
      unfold q_apart at this
      rw [q_tr_at a3 b3, q_tr_at a3' b3'] at this
      have g1 := ((wds_ok hτ).2.2 a a1).1
      have g2 := ((wds_ok hτ).2.2 a' a1').1
      exact cm_apartAt hX _ _ (by omega) τ hτ R2 k j m (by rw [b2]; exact iz_nm1 (by omega)) (by rw [b2']; exact iz_nm1 (by omega)) _ this
    · have := h M2 (rm_F_tr F F2) (mR_C R2)
      unfold q_apart at this
      rw [q_tr_at a3 b3, q_tr_no z] at this; exact this
  · have := h M' F (mR_C R)
    unfold q_apart at this
    rw [q_tr_no z] at this; exact this
theorem cm_near {X : am_X} (hX : am_Cl X) (d : Nat) (M : am_M) (hd : 7 ≤ d) (τ : ta) (hτ : ta_ok τ) (hC : mC M τ) (k j m : Int32) (Q : am_P) (h : ∀ M', rm_F M M' → mC M' τ → Q (some (.inl (q_near τ k j m))) M') : X d 127 0 [some (.inr (.inl (28, 0))), some (.inl (k)), some (.inl (j)), some (.inl (m)), none, none] [] M Q := by
  have hn := hτ.1
  refine am_go hX [25] 40 ?_
  refine am_cc (by omega) (cm_isTrack hX _ _ (by omega) τ hτ hC 0 k _ (fun M' F R a b a1 b1 a2 b2 a3 b3 => am_beq1 (am_cc (by omega) ?_)) (fun M' F R z => am_beq0 ?_))
  · refine cm_isTrack hX _ _ (by omega) τ hτ (mR_C R) 0 j _ (fun M2 F2 R2 a' b' a1' b1' a2' b2' a3' b3' => am_bne1 (am_cc (by omega) ?_)) (fun M2 F2 R2 z => am_bne0 ?_)
    · have := h M2 (rm_F_tr F F2) (mR_C R2)
      unfold q_near at this
      rw [q_tr_at a3 b3, q_tr_at a3' b3'] at this
      have g1 := ((wds_ok hτ).2.2 a a1).1
      have g2 := ((wds_ok hτ).2.2 a' a1').1
      have k1 : ¬ k = -1 := by rw [b2]; exact iz_nm1 (by omega)
      have j1 : ¬ j = -1 := by rw [b2']; exact iz_nm1 (by omega)
      refine cm_in hX _ _ _ _ _ _ (fun m1 m2 => am_beq1 ⟨fun (q : ¬ k = j) => ?_, fun (q : ¬ ¬ k = j) => ?_⟩) (fun z => am_beq0 ?_)
      · rw [if_pos ⟨⟨m1, m2⟩, q⟩] at this
        have e1 : M2.1 28 0 1 = nI (ta_n τ) := R2.1.1
        have loop : ∀ t n : Nat, n + t = ta_n τ → ∀ z5, nr τ k j m (ta_n τ) 0 = nr τ k j m t n → X d 127 25 [some (.inr (.inl (28, 0))), some (.inl (k)), some (.inl (j)), some (.inl (m)), some (.inl (nI n)), z5] [] M2 Q := by
          intro t
          induction t with
          | zero =>
            intro n hn' z5 ha
            rw [ha] at this
            refine am_go hX [25] 60 ?_
            exact ⟨fun _ => this, fun (q : ¬ M2.1 28 0 1 ≤ nI n) => absurd (by rw [e1]; exact nI_le (by omega) (by omega)) q⟩
          | succ t ih =>
            intro n hn' z5 ha
            have hin : n < ta_n τ := by omega
            have hs : od τ n < ta_n τ := (od_facts (ta_mo τ) (ta_n τ)).1 n hin
            have ho : M2.1 42 0 n = nI (od τ n) := R2.2.2.1 n hin
            have em : M2.1 32 0 (od τ n) = nI (ta_mo τ (od τ n)) := (R2.1.2.2.1 _ hs).2.1
            have i12 : n < 12 := by omega
            have s12 : od τ n < 12 := by omega
            have next : ∀ z5, nr τ k j m (ta_n τ) 0 = nr τ k j m t (n + 1) → X d 127 25 [some (.inr (.inl (28, 0))), some (.inl (k)), some (.inl (j)), some (.inl (m)), some (.inl (nI n + 1)), z5] [] M2 Q := by
              intro z5 e
              rw [nI_1]
              exact ih (n + 1) (by omega) z5 e
            refine am_go hX [25] 60 ?_
            refine ⟨fun (q : M2.1 28 0 1 ≤ nI n) => absurd q (by rw [e1]; exact nI_ge hin (by omega)), fun _ => ⟨n, i12, rfl, od τ n, s12, ho, am_cc (by omega) ?_⟩⟩
            refine (fun (z : X (d - 1) 125 0 [some (.inr (.inl (28, 0))), some (.inl (k)), some (.inl (j)), some (.inl (M2.1 32 0 (od τ n))), none, none, none, none] [] M2 _) => z) ?_
            rw [em]
            refine cm_apartAt hX _ _ (by omega) τ hτ R2 k j _ k1 j1 _ ?_
            have hnr : nr τ k j m (ta_n τ) 0 = if 0 ≤ sqa τ k j (nI (ta_mo τ (od τ n))) ∧ sqa τ k j (nI (ta_mo τ (od τ n))) ≤ m * m then nI (ta_mo τ (od τ n)) else nr τ k j m t (n + 1) := by rw [ha, nr]
            refine ⟨fun (y : sqa τ k j (nI (ta_mo τ (od τ n))) < 0) => ?_, fun (y : ¬ sqa τ k j (nI (ta_mo τ (od τ n))) < 0) => ⟨fun (w : m * m < sqa τ k j (nI (ta_mo τ (od τ n)))) => ?_, fun (w : ¬ m * m < sqa τ k j (nI (ta_mo τ (od τ n)))) => ⟨n, i12, rfl, od τ n, s12, ho, ?_⟩⟩⟩
            · exact next _ (by rw [hnr, if_neg (fun v => Int32.not_le.mpr y v.1)])
            · exact next _ (by rw [hnr, if_neg (fun v => Int32.not_le.mpr w v.2)])
            · rw [hnr, if_pos ⟨Int32.not_lt.mp y, Int32.not_lt.mp w⟩] at this
              refine (fun (z : Q (some (.inl (M2.1 32 0 (od τ n)))) M2) => z) ?_
              rw [em]; exact this
        exact loop (ta_n τ) 0 (by omega) none rfl
      · rw [if_neg (fun z => q z.2)] at this; exact this
      · rw [if_neg (fun q => z q.1)] at this; exact this
    · have := h M2 (rm_F_tr F F2) (mR_C R2)
      unfold q_near at this
      rw [q_tr_at a3 b3, q_tr_no z] at this; exact this
  · have := h M' F (mR_C R)
    unfold q_near at this
    rw [q_tr_no z] at this; exact this
set_option maxHeartbeats 1000000 in
theorem cm_path {X : am_X} (hX : am_Cl X) (d : Nat) (M : am_M) (hd : 7 ≤ d) (τ : ta) (hτ : ta_ok τ) (hC : mC M τ) (k i : Int32) (Q : am_P) (h : ∀ M', rm_F M M' → mC M' τ → Q (some (.inl (q_path τ k i))) M') : X d 123 0 [some (.inr (.inl (28, 0))), some (.inl (k)), some (.inl (i)), none, none, none] [] M Q := by
  have hn := hτ.1
  have hl := wds_ok hτ
  refine am_go hX [13] 40 ?_
  refine am_cc (by omega) (cm_isTrack hX _ _ (by omega) τ hτ hC 0 k _ (fun M' F R a b a1 b1 a2 b2 a3 b3 => am_beq1 ?_) (fun M' F R z => am_beq0 ?_))
  · have := h M' F (mR_C R)
    unfold q_path at this
    rw [q_tr_at a3 b3] at this
    have g1 := (hl.2.2 a a1).1
    have k1 : ¬ k = -1 := by rw [b2]; exact iz_nm1 (by omega)
    refine ⟨fun (q : 0 ≤ i) => ?_, fun (q : ¬ 0 ≤ i) => ?_⟩
    · rw [if_pos q] at this
      have e1 : M'.1 28 0 1 = nI (ta_n τ) := R.1.1
      have loop : ∀ t n : Nat, n + t = ta_n τ → ∀ l z5, pt τ k (ta_n τ) 0 i = pt τ k t n l → X d 123 13 [some (.inr (.inl (28, 0))), some (.inl (k)), some (.inl (i)), some (.inl (l)), some (.inl (nI n)), z5] [] M' Q := by
        intro t
        induction t with
        | zero =>
          intro n hn' l z5 ha
          rw [ha] at this
          refine am_go hX [13] 60 ?_
          exact ⟨fun _ => this, fun (q : ¬ M'.1 28 0 1 ≤ nI n) => absurd (by rw [e1]; exact nI_le (by omega) (by omega)) q⟩
        | succ t ih =>
          intro n hn' l z5 ha
          have hin : n < ta_n τ := by omega
          have hs : od τ n < ta_n τ := (od_facts (ta_mo τ) (ta_n τ)).1 n hin
          have ho : M'.1 42 0 n = nI (od τ n) := R.2.2.1 n hin
          have ed : M'.1 33 0 (od τ n) = nI (ta_dn τ (od τ n)) := (R.1.2.2.1 _ hs).2.2.1
          have h4 := (hτ.2.2.1 _ hs).2.2.1
          have i12 : n < 12 := by omega
          have s12 : od τ n < 12 := by omega
          have next : ∀ l z5, pt τ k (ta_n τ) 0 i = pt τ k t (n + 1) l → X d 123 13 [some (.inr (.inl (28, 0))), some (.inl (k)), some (.inl (i)), some (.inl (l)), some (.inl (nI n + 1)), z5] [] M' Q := by
            intro l z5 e
            rw [nI_1]
            exact ih (n + 1) (by omega) l z5 e
          have rest : ∀ l, pt τ k (ta_n τ) 0 i = pt τ k t (n + 1) l → ∀ r e : Nat, e + r = ta_dn τ (od τ n) → (∀ e', e ≤ e' → e' < ta_dn τ (od τ n) → ¬ wd_a (wn τ 0) (od τ n) e' = k) → X d 123 19 [some (.inr (.inl (28, 0))), some (.inl (k)), some (.inl (i)), some (.inl (l)), some (.inl (nI n)), some (.inl (nI e))] [] M' Q := by
            intro l hl' r
            induction r with
            | zero =>
              intro e he hno
              refine am_go hX [13, 19] 60 ?_
              refine ⟨n, i12, rfl, od τ n, s12, ho, fun _ => ?_, fun (q : ¬ M'.1 33 0 (od τ n) ≤ nI e) => absurd (by rw [ed]; exact nI_le (by omega) (by omega)) q⟩
              exact next l _ hl'
            | succ r ihr =>
              intro e he hno
              refine am_go hX [13, 19] 60 ?_
              refine ⟨n, i12, rfl, od τ n, s12, ho, fun (q : M'.1 33 0 (od τ n) ≤ nI e) => absurd q (by rw [ed]; exact nI_ge (by omega) (by omega)), fun _ => ⟨n, i12, rfl, am_cc (by omega) ?_⟩⟩
              refine (fun (z : X (d - 1) 115 0 [some (.inr (.inl (28, 0))), some (.inl (nI 0)), some (.inl (M'.1 42 0 n)), some (.inl (nI e))] [] M' _) => z) ?_
              rw [ho]
              refine cm_accountOf hX _ _ τ hτ R 0 (od τ n) e (by omega) hs (by omega) _ ?_
              refine ⟨fun (y : wd_a (wn τ 0) (od τ n) e = k) => absurd y (hno e (Nat.le_refl _) (by omega)), fun _ => ?_⟩
              refine (fun (z : X d 123 19 [some (.inr (.inl (28, 0))), some (.inl (k)), some (.inl (i)), some (.inl (l)), some (.inl (nI n)), some (.inl (nI e + 1))] [] M' Q) => z) ?_
              rw [nI_1]
              exact ihr (e + 1) (by omega) (fun e' h1 h2 => hno e' (by omega) h2)
          have inner : ∀ r e : Nat, e + r = ta_dn τ (od τ n) → dt τ k (od τ n) = lst (fun e => wd_a (wn τ 0) (od τ n) e = k) r e → X d 123 19 [some (.inr (.inl (28, 0))), some (.inl (k)), some (.inl (i)), some (.inl (l)), some (.inl (nI n)), some (.inl (nI e))] [] M' Q := by
            intro r
            induction r with
            | zero =>
              intro e he hno
              refine am_go hX [13, 19] 60 ?_
              refine ⟨n, i12, rfl, od τ n, s12, ho, fun _ => ?_, fun (q : ¬ M'.1 33 0 (od τ n) ≤ nI e) => absurd (by rw [ed]; exact nI_le (by omega) (by omega)) q⟩
              exact next l _ (by rw [ha, pt, hno]; rfl)
            | succ r ihr =>
              intro e he hno
              refine am_go hX [13, 19] 60 ?_
              refine ⟨n, i12, rfl, od τ n, s12, ho, fun (q : M'.1 33 0 (od τ n) ≤ nI e) => absurd q (by rw [ed]; exact nI_ge (by omega) (by omega)), fun _ => ⟨n, i12, rfl, am_cc (by omega) ?_⟩⟩
              refine (fun (z : X (d - 1) 115 0 [some (.inr (.inl (28, 0))), some (.inl (nI 0)), some (.inl (M'.1 42 0 n)), some (.inl (nI e))] [] M' _) => z) ?_
              rw [ho]
              refine cm_accountOf hX _ _ τ hτ R 0 (od τ n) e (by omega) hs (by omega) _ ?_
              refine ⟨fun (y : wd_a (wn τ 0) (od τ n) e = k) => ?_, fun (y : ¬ wd_a (wn τ 0) (od τ n) e = k) => ?_⟩
              · rw [lst_y (P := fun e => wd_a (wn τ 0) (od τ n) e = k) y] at hno
                have hpt : pt τ k (ta_n τ) 0 i = if l = 0 then nI (4 * od τ n + e) else pt τ k t (n + 1) (l + (-1)) := by rw [ha, pt, hno]
                refine ⟨fun (w : ¬ l = 0) => ?_, fun (w : ¬ ¬ l = 0) => ⟨n, i12, rfl, ?_⟩⟩
                · refine (fun (z : X d 123 19 [some (.inr (.inl (28, 0))), some (.inl (k)), some (.inl (i)), some (.inl (l + (-1))), some (.inl (nI n)), some (.inl (nI e + 1))] [] M' Q) => z) ?_
                  rw [nI_1]
                  exact rest (l + (-1)) (by rw [hpt, if_neg w]) r (e + 1) (by omega) (fun e' h1 h2 z => dt_uni hτ k1 hs (by omega : e < e') h2 z y)
                · have ix : 4 * M'.1 42 0 n + nI e = nI (4 * od τ n + e) := by rw [ho, show (4 : Int32) = nI 4 from rfl, pk_mul, nI_add]
                  rw [hpt, if_pos (Classical.not_not.mp w), ← ix] at this
                  exact this
              · refine (fun (z : X d 123 19 [some (.inr (.inl (28, 0))), some (.inl (k)), some (.inl (i)), some (.inl (l)), some (.inl (nI n)), some (.inl (nI e + 1))] [] M' Q) => z) ?_
                rw [nI_1]
                exact ihr (e + 1) (by omega) (by rw [hno, lst_n (P := fun e => wd_a (wn τ 0) (od τ n) e = k) y])
          refine am_go hX [13, 19] 60 ?_
          refine ⟨fun (q : M'.1 28 0 1 ≤ nI n) => absurd q (by rw [e1]; exact nI_ge hin (by omega)), fun _ => ?_⟩
          exact inner (ta_dn τ (od τ n)) 0 (by omega) rfl
      exact loop (ta_n τ) 0 (by omega) i none rfl
    · rw [if_neg q] at this; exact this
  · have := h M' F (mR_C R)
    unfold q_path at this
    rw [q_tr_no z] at this; exact this
end
section
/-! pairs, level, right: the class -/
abbrev pz : Type := Nat × Int32 × Int32
def pr_d (τ : ta) (s r a b : Nat) (z : pz) : pz := if ta_dm τ s a = 0 ∨ ¬ ta_dm τ s a = ta_dm τ r b then z else (z.1 + 1, z.2.1 + (ta_dx τ r b - ta_dx τ s a), z.2.2 + (ta_dy τ r b - ta_dy τ s a))
def pr_b (τ : ta) (s r a : Nat) : Nat → pz → pz
  | 0, z => z
  | b + 1, z => pr_d τ s r a b (pr_b τ s r a b z)
def pr_a (τ : ta) (s r : Nat) : Nat → pz → pz
  | 0, z => z
  | a + 1, z => pr_b τ s r a (ta_dn τ r) (pr_a τ s r a z)
def pr_r (τ : ta) (w u s : Nat) : Nat → pz → pz
  | 0, z => z
  | r + 1, z => if ta_wt τ s = w ∧ ta_wt τ r = u ∧ ta_mo τ s = ta_mo τ r then pr_a τ s r (ta_dn τ s) (pr_r τ w u s r z) else pr_r τ w u s r z
def pr_s (τ : ta) (w u : Nat) : Nat → pz
  | 0 => (0, 0, 0)
  | s + 1 => pr_r τ w u s (ta_n τ) (pr_s τ w u s)
def prs (τ : ta) (w u : Nat) : pz := pr_s τ w u (ta_n τ)
def pr_ok (c : Nat) (z : pz) : Prop := z.1 ≤ c ∧ (-(2000 * (z.1 : Int)) ≤ z.2.1.toInt ∧ z.2.1.toInt ≤ 2000 * z.1) ∧ (-(2000 * (z.1 : Int)) ≤ z.2.2.toInt ∧ z.2.2.toInt ≤ 2000 * z.1)
theorem pr_ok_le {c c' : Nat} {z : pz} (h : pr_ok c z) (hc : c ≤ c') : pr_ok c' z := ⟨Nat.le_trans h.1 hc, h.2⟩
theorem pr_d_ok {τ : ta} (hτ : ta_ok τ) {s r a b c : Nat} {z : pz} (hs : s < ta_n τ) (hr : r < ta_n τ) (ha : a < ta_dn τ s) (hb : b < ta_dn τ r) (hc : c ≤ 2400) (h : pr_ok c z) : pr_ok (c + 1) (pr_d τ s r a b z) := by
  unfold pr_d
  split
  · exact pr_ok_le h (by omega)
  · obtain ⟨h1, h2, h3⟩ := h
    obtain ⟨x1, y1, -⟩ := (hτ.2.2.1 s hs).2.2.2 a ha
    obtain ⟨x2, y2, -⟩ := (hτ.2.2.1 r hr).2.2.2 b hb
    unfold ta_in at x1 y1 x2 y2
    have dx : (ta_dx τ r b - ta_dx τ s a).toInt = (ta_dx τ r b).toInt - (ta_dx τ s a).toInt := iz_sub (by omega) (by omega)
    have dy : (ta_dy τ r b - ta_dy τ s a).toInt = (ta_dy τ r b).toInt - (ta_dy τ s a).toInt := iz_sub (by omega) (by omega)
    refine ⟨by show z.1 + 1 ≤ c + 1; omega, ?_, ?_⟩
    · show -(2000 * ((z.1 + 1 : Nat) : Int)) ≤ (z.2.1 + (ta_dx τ r b - ta_dx τ s a)).toInt ∧ (z.2.1 + (ta_dx τ r b - ta_dx τ s a)).toInt ≤ 2000 * ((z.1 + 1 : Nat) : Int)
      rw [iz_add (by rw [dx]; omega) (by rw [dx]; omega), dx]; omega
    · show -(2000 * ((z.1 + 1 : Nat) : Int)) ≤ (z.2.2 + (ta_dy τ r b - ta_dy τ s a)).toInt ∧ (z.2.2 + (ta_dy τ r b - ta_dy τ s a)).toInt ≤ 2000 * ((z.1 + 1 : Nat) : Int)
      rw [iz_add (by rw [dy]; omega) (by rw [dy]; omega), dy]; omega
theorem pr_b_ok {τ : ta} (hτ : ta_ok τ) {s r a c : Nat} {z : pz} (hs : s < ta_n τ) (hr : r < ta_n τ) (ha : a < ta_dn τ s) (hc : c ≤ 2396) (h : pr_ok c z) : ∀ b, b ≤ ta_dn τ r → pr_ok (c + b) (pr_b τ s r a b z)
  | 0, _ => h
  | b + 1, hb => by
    have h4 := (hτ.2.2.1 r hr).2.2.1
    exact pr_d_ok (c := c + b) hτ hs hr ha (by omega) (by omega) (pr_b_ok hτ hs hr ha hc h b (by omega))
theorem pr_a_ok {τ : ta} (hτ : ta_ok τ) {s r c : Nat} {z : pz} (hs : s < ta_n τ) (hr : r < ta_n τ) (hc : c ≤ 2380) (h : pr_ok c z) : ∀ a, a ≤ ta_dn τ s → pr_ok (c + 4 * a) (pr_a τ s r a z)
  | 0, _ => h
  | a + 1, ha => by
    have h4 := (hτ.2.2.1 r hr).2.2.1
    have h4' := (hτ.2.2.1 s hs).2.2.1
    exact pr_ok_le (pr_b_ok hτ hs hr (by omega) (by omega) (pr_a_ok hτ hs hr hc h a (by omega)) (ta_dn τ r) (Nat.le_refl _)) (by omega)
theorem pr_r_ok {τ : ta} (hτ : ta_ok τ) {w u s c : Nat} {z : pz} (hs : s < ta_n τ) (hc : c ≤ 2112) (h : pr_ok c z) : ∀ r, r ≤ ta_n τ → pr_ok (c + 16 * r) (pr_r τ w u s r z)
  | 0, _ => h
  | r + 1, hr => by
    have hn := hτ.1
    have h4 := (hτ.2.2.1 s hs).2.2.1
    have ih := pr_r_ok hτ (w := w) (u := u) hs hc h r (by omega)
    rw [pr_r]
    split
    · exact pr_ok_le (pr_a_ok hτ hs (by omega) (by omega) ih (ta_dn τ s) (Nat.le_refl _)) (by omega)
    · exact pr_ok_le ih (by omega)
theorem pr_s_ok {τ : ta} (hτ : ta_ok τ) {w u : Nat} : ∀ s, s ≤ ta_n τ → pr_ok (192 * s) (pr_s τ w u s)
  | 0, _ => ⟨Nat.le_refl 0, ⟨by show -(2000 * ((0 : Nat) : Int)) ≤ (0 : Int32).toInt; decide, by show (0 : Int32).toInt ≤ 2000 * ((0 : Nat) : Int); decide⟩, ⟨by show -(2000 * ((0 : Nat) : Int)) ≤ (0 : Int32).toInt; decide, by show (0 : Int32).toInt ≤ 2000 * ((0 : Nat) : Int); decide⟩⟩
  | s + 1, hs => by
    have hn := hτ.1
    exact pr_ok_le (pr_r_ok hτ (by omega) (by omega) (pr_s_ok hτ s (by omega)) (ta_n τ) (Nat.le_refl _)) (by omega)
theorem prs_ok {τ : ta} (hτ : ta_ok τ) (w u : Nat) : pr_ok 2304 (prs τ w u) := pr_ok_le (pr_s_ok hτ (ta_n τ) (Nat.le_refl _)) (by have := hτ.1; omega)
def k50 (x : Int32) : Int32 := if x < -50 then -50 else if 50 < x then 50 else x
noncomputable def q_ww {α : Type} (W : Nat) (w u : Int32) (no : α) (f : Nat → Nat → α) : α := match ix w W with
  | some a => (match ix u W with
    | some b => f a b
    | none => no)
  | none => no
theorem q_ww_at {α : Type} {W : Nat} {w u : Int32} {no : α} {f : Nat → Nat → α} {a b : Nat} (h1 : ix w W = some a) (h2 : ix u W = some b) : q_ww W w u no f = f a b := by
  unfold q_ww; rw [h1]; dsimp only; rw [h2]
theorem q_ww_n1 {α : Type} {W : Nat} {w u : Int32} {no : α} {f : Nat → Nat → α} (h1 : ix w W = none) : q_ww W w u no f = no := by
  unfold q_ww; rw [h1]
theorem q_ww_n2 {α : Type} {W : Nat} {w u : Int32} {no : α} {f : Nat → Nat → α} (h1 : ix u W = none) : q_ww W w u no f = no := by
  unfold q_ww; split
  · rw [h1]
  · rfl
noncomputable def q_pairs (τ : ta) (W : Nat) (w u : Int32) : Int32 := q_ww W w u (-1) fun a b => if a = b then -2 else nI (prs τ a b).1
noncomputable def q_level (τ : ta) (W : Nat) (w u o : Int32) : Int32 := q_ww W w u NO fun a b => if a = b ∨ ¬ (0 ≤ o ∧ o ≤ 1) ∨ (prs τ a b).1 = 0 then NO else lb_fd (if o = 0 then (prs τ a b).2.1 else (prs τ a b).2.2) (nI (prs τ a b).1)
def rg_a (τ : ta) (a b : Nat) : Int32 := k50 (ta_sa τ a - lb_fd (prs τ a b).2.1 (nI (prs τ a b).1))
def rg_b (τ : ta) (a b : Nat) : Int32 := k50 (ta_sb τ a - lb_fd (prs τ a b).2.2 (nI (prs τ a b).1))
def rg_n (τ : ta) (a b : Nat) : Int32 := (if rg_a τ a b = ta_sa τ b then 0 else 1) + (if rg_b τ a b = ta_sb τ b then 0 else 1)
def rc_z (M : am_M) (z : pz) : Prop := M.1 17 0 0 = nI z.1 ∧ M.1 17 0 1 = z.2.1 ∧ M.1 17 0 2 = z.2.2
theorem am_fr_T {M M' : am_M} {τ : ta} (h : rc_T M τ) (fr : am_fr [17] M M') : rc_T M' τ := rc_T_fr h (am_fg_of fr []) (by simp) (by simp)
set_option maxHeartbeats 1000000 in
theorem cw_addPairs {X : am_X} (hX : am_Cl X) (d : Nat) (M : am_M) (τ : ta) (hτ : ta_ok τ) (hT : rc_T M τ) (s r : Nat) (hs : s < ta_n τ) (hr : r < ta_n τ) (z : pz) (hz : rc_z M z) (Q : am_P) (h : ∀ M', am_fr [17] M M' → rc_z M' (pr_a τ s r (ta_dn τ s) z) → Q none M') : X d 59 0 [some (.inr (.inl (17, 0))), some (.inr (.inl (18, M.2.1 4 s))), some (.inr (.inl (18, M.2.1 4 r))), none, none] [] M Q := by
  have hn := hτ.1
  have bs := hτ.2.2.1 s hs
  have br := hτ.2.2.1 r hr
  have cs := hT.2.2.2.2.1 s hs
  have cr := hT.2.2.2.2.1 r hr
  generalize M.2.1 4 s = p at cs ⊢
  generalize M.2.1 4 r = q at cr ⊢
  refine am_go hX [2] 20 ?_
  have outer : ∀ t a : Nat, a + t = ta_dn τ s → ∀ M' : am_M, am_fr [17] M M' → rc_z M' (pr_a τ s r a z) → ∀ z4, X d 59 2 [some (.inr (.inl (17, 0))), some (.inr (.inl (18, p))), some (.inr (.inl (18, q))), some (.inl (nI a)), z4] [] M' Q := by
    intro t
    induction t with
    | zero =>
      intro a ha M' fr hz' z4
      have ha : a = ta_dn τ s := by omega
      subst ha
      have e : M'.1 18 p 2 = nI (ta_dn τ s) := (fr.2 18 _ _ (by simp)).trans cs.2.2.1
      refine am_go hX [2] 40 ?_
      exact ⟨fun _ => h M' fr hz', fun (y : ¬ M'.1 18 p 2 ≤ nI (ta_dn τ s)) => absurd (by rw [e]; exact nI_le (Nat.le_refl _) (by omega)) y⟩
    | succ t ih =>
      intro a ha M' fr hz' z4
      have had : a < ta_dn τ s := by omega
      have a4 : a < 4 := by omega
      have inner : ∀ t2 b : Nat, b + t2 = ta_dn τ r → ∀ M2 : am_M, am_fr [17] M M2 → rc_z M2 (pr_b τ s r a b (pr_a τ s r a z)) → X d 59 8 [some (.inr (.inl (17, 0))), some (.inr (.inl (18, p))), some (.inr (.inl (18, q))), some (.inl (nI a)), some (.inl (nI b))] [] M2 Q := by
        intro t2
        induction t2 with
        | zero =>
          intro b hb M2 fr2 hz2
          have hb : b = ta_dn τ r := by omega
          subst hb
          have e : M2.1 18 q 2 = nI (ta_dn τ r) := (fr2.2 18 _ _ (by simp)).trans cr.2.2.1
          refine am_go hX [2] 60 ?_
          refine ⟨fun _ => ?_, fun (y : ¬ M2.1 18 q 2 ≤ nI (ta_dn τ r)) => absurd (by rw [e]; exact nI_le (Nat.le_refl _) (by omega)) y⟩
          refine (fun (y : X d 59 2 [some (.inr (.inl (17, 0))), some (.inr (.inl (18, p))), some (.inr (.inl (18, q))), some (.inl (nI a + 1)), some (.inl (nI (ta_dn τ r)))] [] M2 Q) => y) ?_
          rw [nI_1]
          exact ih (a + 1) (by omega) M2 fr2 hz2 _
        | succ t2 ih2 =>
          intro b hb M2 fr2 hz2
          have hbd : b < ta_dn τ r := by omega
          have b4 : b < 4 := by omega
          have e : M2.1 18 q 2 = nI (ta_dn τ r) := (fr2.2 18 _ _ (by simp)).trans cr.2.2.1
          have m1 : M2.1 21 p a = nI (ta_dm τ s a) := (fr2.2 21 _ _ (by simp)).trans (cs.2.2.2 a had).2.2
          have m2 : M2.1 21 q b = nI (ta_dm τ r b) := (fr2.2 21 _ _ (by simp)).trans (cr.2.2.2 b hbd).2.2
          have k1 := (bs.2.2.2 a had).2.2
          have k2 := (br.2.2.2 b hbd).2.2
          have next : ∀ M3 : am_M, am_fr [17] M M3 → rc_z M3 (pr_b τ s r a (b + 1) (pr_a τ s r a z)) → X d 59 8 [some (.inr (.inl (17, 0))), some (.inr (.inl (18, p))), some (.inr (.inl (18, q))), some (.inl (nI a)), some (.inl (nI b + 1))] [] M3 Q := by
            intro M3 fr3 hz3
            rw [nI_1]
            exact ih2 (b + 1) (by omega) M3 fr3 hz3
          refine am_go hX [2, 8] 80 ?_
          refine ⟨fun (y : M2.1 18 q 2 ≤ nI b) => absurd y (by rw [e]; exact nI_ge hbd (by omega)), fun _ => ⟨a, a4, rfl, fun (y : M2.1 21 p a = 0) => ?_, fun (y : ¬ M2.1 21 p a = 0) => ⟨a, a4, rfl, b, b4, rfl, fun (w : ¬ M2.1 21 p a = M2.1 21 q b) => ?_, fun (w : ¬ ¬ M2.1 21 p a = M2.1 21 q b) => ⟨b, b4, rfl, a, a4, rfl, b, b4, rfl, a, a4, rfl, ?_⟩⟩⟩⟩
          · rw [m1] at y
            have y : ta_dm τ s a = 0 := (nI_eq (b := 0) (by omega) (by omega)).mp y
            refine next M2 fr2 ?_
            rw [pr_b, pr_d, if_pos (Or.inl y)]; exact hz2
          · rw [m1, m2] at w
            refine next M2 fr2 ?_
            rw [pr_b, pr_d, if_pos (Or.inr (fun v => w (by rw [v])))]; exact hz2
          · rw [m1] at y
            rw [m1, m2] at w
            have y : ¬ ta_dm τ s a = 0 := fun v => y (by rw [v]; rfl)
            have w := (nI_eq (by omega) (by omega)).mp (Classical.not_not.mp w)
            refine (fun (v : X d 59 8 [some (.inr (.inl (17, 0))), some (.inr (.inl (18, p))), some (.inr (.inl (18, q))), some (.inl (nI a)), some (.inl (nI b + 1))] [] (am_si (am_si (am_si M2 17 0 0 (M2.1 17 0 0 + 1)) 17 0 1 (M2.1 17 0 1 + (M2.1 19 q b - M2.1 19 p a))) 17 0 2 (M2.1 17 0 2 + (M2.1 20 q b - M2.1 20 p a))) Q) => v) ?_
            refine next _ (am_fr_si (am_fr_si (am_fr_si fr2 (by simp)) (by simp)) (by simp)) ?_
            rw [pr_b, pr_d, if_neg (fun v => v.elim y (fun v => v w))]
            obtain ⟨z1, z2, z3⟩ := hz2
            refine ⟨?_, ?_, ?_⟩
            · rw [am_si_at, if_neg (by omega), am_si_at, if_neg (by omega), am_si_at, if_pos ⟨rfl, rfl, rfl⟩, z1, nI_1]
            · rw [am_si_at, if_neg (by omega), am_si_at, if_pos ⟨rfl, rfl, rfl⟩, z2, fr2.2 19 _ _ (by simp), fr2.2 19 _ _ (by simp), (cs.2.2.2 a had).1, (cr.2.2.2 b hbd).1]
            · rw [am_si_at, if_pos ⟨rfl, rfl, rfl⟩, z3, fr2.2 20 _ _ (by simp), fr2.2 20 _ _ (by simp), (cs.2.2.2 a had).2.1, (cr.2.2.2 b hbd).2.1]
      have e : M'.1 18 p 2 = nI (ta_dn τ s) := (fr.2 18 _ _ (by simp)).trans cs.2.2.1
      refine am_go hX [2, 8] 40 ?_
      refine ⟨fun (y : M'.1 18 p 2 ≤ nI a) => absurd y (by rw [e]; exact nI_ge had (by omega)), fun _ => ?_⟩
      exact inner (ta_dn τ r) 0 (by omega) M' fr hz'
  exact outer (ta_dn τ s) 0 (by omega) M (am_fr_rf _ _) hz none
set_option maxHeartbeats 1000000 in
theorem cw_measure {X : am_X} (hX : am_Cl X) (d : Nat) (M : am_M) (hd : 1 ≤ d) (τ : ta) (hτ : ta_ok τ) (hT : rc_T M τ) (w u : Nat) (hw : w < 3) (hu : u < 3) (Q : am_P) (h : ∀ M', am_fr [17] M M' → rc_z M' (prs τ w u) → Q none M') : X d 58 0 [some (.inr (.inl (17, 0))), some (.inr (.inl (1, 0))), some (.inl (nI w)), some (.inl (nI u)), none, none, none, none] [] M Q := by
  have hn := hτ.1
  refine am_go hX [11] 40 ?_
  have outer : ∀ t s : Nat, s + t = ta_n τ → ∀ M' : am_M, am_fr [17] M M' → rc_z M' (pr_s τ w u s) → ∀ z5 z6 z7, X d 58 11 [some (.inr (.inl (17, 0))), some (.inr (.inl (1, 0))), some (.inl (nI w)), some (.inl (nI u)), some (.inl (nI s)), z5, z6, z7] [] M' Q := by
    intro t
    induction t with
    | zero =>
      intro s hs M' fr hz z5 z6 z7
      have hs : s = ta_n τ := by omega
      subst hs
      have e := (am_fr_T hT fr).1
      refine am_go hX [11] 40 ?_
      exact ⟨fun _ => h M' fr hz, fun (y : ¬ M'.1 1 0 2 ≤ nI (ta_n τ)) => absurd (by rw [e]; exact nI_le (Nat.le_refl _) (by omega)) y⟩
    | succ t ih =>
      intro s hs M' fr hz z5 z6 z7
      have hsn : s < ta_n τ := by omega
      have inner : ∀ t2 r : Nat, r + t2 = ta_n τ → ∀ M2 : am_M, am_fr [17] M M2 → rc_z M2 (pr_r τ w u s r (pr_s τ w u s)) → ∀ z6 z7, X d 58 17 [some (.inr (.inl (17, 0))), some (.inr (.inl (1, 0))), some (.inl (nI w)), some (.inl (nI u)), some (.inl (nI s)), some (.inl (nI r)), z6, z7] [] M2 Q := by
        intro t2
        induction t2 with
        | zero =>
          intro r hr M2 fr2 hz2 z6 z7
          have hr : r = ta_n τ := by omega
          subst hr
          have e := (am_fr_T hT fr2).1
          refine am_go hX [11] 60 ?_
          refine ⟨fun _ => ?_, fun (y : ¬ M2.1 1 0 2 ≤ nI (ta_n τ)) => absurd (by rw [e]; exact nI_le (Nat.le_refl _) (by omega)) y⟩
          refine (fun (y : X d 58 11 [some (.inr (.inl (17, 0))), some (.inr (.inl (1, 0))), some (.inl (nI w)), some (.inl (nI u)), some (.inl (nI s + 1)), some (.inl (nI (ta_n τ))), z6, z7] [] M2 Q) => y) ?_
          rw [nI_1]
          exact ih (s + 1) (by omega) M2 fr2 hz2 _ _ _
        | succ t2 ih2 =>
          intro r hr M2 fr2 hz2 z6 z7
          have hrn : r < ta_n τ := by omega
          have hT2 := am_fr_T hT fr2
          have e := hT2.1
          have cs := hT2.2.2.2.2.1 s hsn
          have cr := hT2.2.2.2.2.1 r hrn
          have bs := hτ.2.2.1 s hsn
          have br := hτ.2.2.1 r hrn
          have next : ∀ M3 : am_M, am_fr [17] M M3 → rc_z M3 (pr_r τ w u s (r + 1) (pr_s τ w u s)) → ∀ z6 z7, X d 58 17 [some (.inr (.inl (17, 0))), some (.inr (.inl (1, 0))), some (.inl (nI w)), some (.inl (nI u)), some (.inl (nI s)), some (.inl (nI r + 1)), z6, z7] [] M3 Q := by
            intro M3 fr3 hz3 z6 z7
            rw [nI_1]
            exact ih2 (r + 1) (by omega) M3 fr3 hz3 _ _
          have s13 : s < 13 := by omega
          have r13 : r < 13 := by omega
          refine am_go hX [11, 17] 80 ?_
          refine ⟨fun (y : M2.1 1 0 2 ≤ nI r) => absurd y (by rw [e]; exact nI_ge hrn (by omega)), fun _ => ⟨s, s13, rfl, r, r13, rfl, fun (y : ¬ M2.1 18 (M2.2.1 4 s) 0 = nI w) => ?_, fun (y : ¬ ¬ M2.1 18 (M2.2.1 4 s) 0 = nI w) => ⟨fun (v : ¬ M2.1 18 (M2.2.1 4 r) 0 = nI u) => ?_, fun (v : ¬ ¬ M2.1 18 (M2.2.1 4 r) 0 = nI u) => ⟨fun (x : ¬ M2.1 18 (M2.2.1 4 s) 1 = M2.1 18 (M2.2.1 4 r) 1) => ?_, fun (x : ¬ ¬ M2.1 18 (M2.2.1 4 s) 1 = M2.1 18 (M2.2.1 4 r) 1) => am_cc hd ?_⟩⟩⟩⟩
          · rw [cs.1] at y
            refine next M2 fr2 ?_ _ _
            rw [pr_r, if_neg (fun q => y (by rw [q.1]))]; exact hz2
          · rw [cr.1] at v
            refine next M2 fr2 ?_ _ _
            rw [pr_r, if_neg (fun q => v (by rw [q.2.1]))]; exact hz2
          · rw [cs.2.1, cr.2.1] at x
            refine next M2 fr2 ?_ _ _
            rw [pr_r, if_neg (fun q => x (by rw [q.2.2]))]; exact hz2
          · have y := Classical.not_not.mp y
            have v := Classical.not_not.mp v
            have x := Classical.not_not.mp x
            rw [cs.1, nI_eq (by omega) (by omega)] at y
            rw [cr.1, nI_eq (by omega) (by omega)] at v
            rw [cs.2.1, cr.2.1, nI_eq (by omega) (by omega)] at x
            refine cw_addPairs hX _ _ τ hτ hT2 s r hsn hrn _ hz2 _ (fun M3 fr3 hz3 => ?_)
            refine next M3 (am_fr_tr fr2 fr3) ?_ _ _
            rw [pr_r, if_pos ⟨y, v, x⟩]; exact hz3
      have e := (am_fr_T hT fr).1
      refine am_go hX [11, 17] 40 ?_
      refine ⟨fun (y : M'.1 1 0 2 ≤ nI s) => absurd y (by rw [e]; exact nI_ge hsn (by omega)), fun _ => ?_⟩
      exact inner (ta_n τ) 0 (by omega) M' fr hz _ _
  refine (fun (y : X d 58 11 [some (.inr (.inl (17, 0))), some (.inr (.inl (1, 0))), some (.inl (nI w)), some (.inl (nI u)), some (.inl (nI 0)), none, none, none] [] (am_si (am_si (am_si M 17 0 0 0) 17 0 1 0) 17 0 2 0) Q) => y) ?_
  refine outer (ta_n τ) 0 (by omega) _ (am_fr_si (am_fr_si (am_fr_si (am_fr_rf _ M) (by simp)) (by simp)) (by simp)) ⟨?_, ?_, ?_⟩ _ _ _
  · rw [am_si_at, if_neg (by omega), am_si_at, if_neg (by omega), am_si_at, if_pos ⟨rfl, rfl, rfl⟩]; rfl
  · rw [am_si_at, if_neg (by omega), am_si_at, if_pos ⟨rfl, rfl, rfl⟩]; rfl
  · rw [am_si_at, if_pos ⟨rfl, rfl, rfl⟩]; rfl
theorem cw_meanX {X : am_X} (hX : am_Cl X) (d : Nat) (M : am_M) (hd : 1 ≤ d) (z : pz) (hz : rc_z M z) (hb : z.1 ≤ 2304) (Q : am_P) (h0 : z.1 = 0 → Q (some (.inl (NO))) M) (h : ¬ z.1 = 0 → Q (some (.inl (lb_fd z.2.1 (nI z.1)))) M) : X d 60 0 [some (.inr (.inl (17, 0)))] [] M Q := by
  obtain ⟨z1, z2, z3⟩ := hz
  refine am_go hX [] 20 ?_
  refine ⟨fun (y : M.1 17 0 0 ≤ 0) => ?_, fun (y : ¬ M.1 17 0 0 ≤ 0) => am_cc hd ?_⟩
  · rw [z1] at y
    exact h0 (by have := (nI_leI (b := 0) (by omega) (by omega)).mp y; omega)
  · rw [z1] at y
    have hz : ¬ z.1 = 0 := fun v => y (by rw [v]; decide)
    refine (fun (v : X (d - 1) 134 0 [some (.inl (M.1 17 0 1)), some (.inl (M.1 17 0 0)), none] [] M _) => v) ?_
    rw [z1, z2]
    exact lb_floorDiv hX _ _ _ _ (nI_ne0 (by omega) (by omega)) _ (h hz)
theorem cw_meanY {X : am_X} (hX : am_Cl X) (d : Nat) (M : am_M) (hd : 1 ≤ d) (z : pz) (hz : rc_z M z) (hb : z.1 ≤ 2304) (Q : am_P) (h0 : z.1 = 0 → Q (some (.inl (NO))) M) (h : ¬ z.1 = 0 → Q (some (.inl (lb_fd z.2.2 (nI z.1)))) M) : X d 61 0 [some (.inr (.inl (17, 0)))] [] M Q := by
  obtain ⟨z1, z2, z3⟩ := hz
  refine am_go hX [] 20 ?_
  refine ⟨fun (y : M.1 17 0 0 ≤ 0) => ?_, fun (y : ¬ M.1 17 0 0 ≤ 0) => am_cc hd ?_⟩
  · rw [z1] at y
    exact h0 (by have := (nI_leI (b := 0) (by omega) (by omega)).mp y; omega)
  · rw [z1] at y
    have hz : ¬ z.1 = 0 := fun v => y (by rw [v]; decide)
    refine (fun (v : X (d - 1) 134 0 [some (.inl (M.1 17 0 2)), some (.inl (M.1 17 0 0)), none] [] M _) => v) ?_
    rw [z1, z3]
    exact lb_floorDiv hX _ _ _ _ (nI_ne0 (by omega) (by omega)) _ (h hz)
theorem k50_mm (v : Int32) : (if -50 < (if v < 50 then v else 50) then (if v < 50 then v else 50) else -50) = k50 v := by
  have e1 : (50 : Int32).toInt = 50 := by decide
  have e2 : (-50 : Int32).toInt = -50 := by decide
  unfold k50
  simp only [Int32.lt_iff_toInt_lt, e1, e2]
  by_cases c1 : v.toInt < 50
  · rw [if_pos c1]
    by_cases c2 : -50 < v.toInt
    · rw [if_pos c2, if_neg (by omega), if_neg (by omega)]
    · rw [if_neg c2]
      by_cases c3 : v.toInt < -50
      · rw [if_pos c3]
      · rw [if_neg c3, if_neg (by omega)]
        exact (iz_ext ((by omega : v.toInt = -50).trans e2.symm)).symm
  · rw [if_neg c1, e1, if_pos (by omega), if_neg (by omega)]
    by_cases c3 : 50 < v.toInt
    · rw [if_pos c3]
    · rw [if_neg c3]
      exact (iz_ext ((by omega : v.toInt = 50).trans e1.symm)).symm
theorem cw_keptWithin {X : am_X} (hX : am_Cl X) (d : Nat) (M : am_M) (hd : 1 ≤ d) (v : Int32) (Q : am_P) (h : Q (some (.inl (k50 v))) M) : X d 26 0 [some (.inl (v))] [] M Q := by
  refine am_go hX [] 20 ?_
  refine am_cc hd (lb_min hX _ _ 50 v _ (am_cc hd (lb_max hX _ _ _ _ _ ?_)))
  rw [k50_mm]; exact h
theorem cw_pairs {X : am_X} (hX : am_Cl X) (d : Nat) (M : am_M) (hd : 2 ≤ d) (τ : ta) (hτ : ta_ok τ) (hT : rc_T M τ) (W : Nat) (hW : W ≤ 3) (eW : M.1 1 0 1 = nI W) (w u : Int32) (Q : am_P) (h : ∀ M', am_fr [17] M M' → Q (some (.inl (q_pairs τ W w u))) M') : X d 21 0 [some (.inr (.inl (0, 0))), some (.inl (w)), some (.inl (u))] [] M Q := by
  refine am_go hX [] 40 ?_
  refine am_cc (by omega) (cw_isWatcher hX _ _ _ _ (fun w1 w2 => am_beq1 (am_cc (by omega) ?_)) (fun c => am_beq0 ?_))
  · rw [eW] at w2
    obtain ⟨a, a1, a2, a3⟩ := ix_y (by omega) w1 w2
    refine cw_isWatcher hX _ _ _ _ (fun u1 u2 => am_bne1 ?_) (fun c => am_bne0 ?_)
    · rw [eW] at u2
      obtain ⟨b, b1, b2, b3⟩ := ix_y (by omega) u1 u2
      unfold q_pairs at h
      rw [q_ww_at a3 b3] at h
      refine ⟨fun (y : ¬ w = u) => am_cc (by omega) ?_, fun (y : ¬ ¬ w = u) => ?_⟩
      · rw [a2, b2] at y ⊢
        rw [if_neg (fun v => y (by rw [v]))] at h
        refine cw_measure hX _ _ (by omega) τ hτ hT a b (by omega) (by omega) _ (fun M' fr hz => ?_)
        have := h M' fr
        rw [← hz.1] at this; exact this
      · rw [a2, b2] at y
        rw [if_pos ((nI_eq (by omega) (by omega)).mp (Classical.not_not.mp y))] at h
        exact h M (am_fr_rf _ _)
    · rw [eW] at c
      have := h M (am_fr_rf _ _)
      unfold q_pairs at this
      rw [q_ww_n2 (ix_n (by omega) c)] at this; exact this
  · rw [eW] at c
    have := h M (am_fr_rf _ _)
    unfold q_pairs at this
    rw [q_ww_n1 (ix_n (by omega) c)] at this; exact this
theorem cw_level {X : am_X} (hX : am_Cl X) (d : Nat) (M : am_M) (hd : 2 ≤ d) (τ : ta) (hτ : ta_ok τ) (hT : rc_T M τ) (W : Nat) (hW : W ≤ 3) (eW : M.1 1 0 1 = nI W) (w u o : Int32) (Q : am_P) (h : ∀ M', am_fr [17] M M' → Q (some (.inl (q_level τ W w u o))) M') : X d 22 0 [some (.inr (.inl (0, 0))), some (.inl (w)), some (.inl (u)), some (.inl (o))] [] M Q := by
  refine am_go hX [] 40 ?_
  refine am_cc (by omega) (cw_isWatcher hX _ _ _ _ (fun w1 w2 => am_beq1 (am_cc (by omega) ?_)) (fun c => am_beq0 ?_))
  · rw [eW] at w2
    obtain ⟨a, a1, a2, a3⟩ := ix_y (by omega) w1 w2
    refine cw_isWatcher hX _ _ _ _ (fun u1 u2 => am_beq1 ?_) (fun c => am_beq0 ?_)
    · rw [eW] at u2
      obtain ⟨b, b1, b2, b3⟩ := ix_y (by omega) u1 u2
      unfold q_level at h
      rw [q_ww_at a3 b3] at h
      refine ⟨fun (y : w = u) => ?_, fun (y : ¬ w = u) => am_cc (by omega) ?_⟩
      · rw [a2, b2] at y
        rw [if_pos (Or.inl ((nI_eq (by omega) (by omega)).mp y))] at h
        exact h M (am_fr_rf _ _)
      · rw [a2, b2] at y
        have y : ¬ a = b := fun v => y (by rw [v])
        refine cw_within hX _ _ _ _ _ _ (fun o1 o2 => am_bne1 (am_cc (by omega) ?_)) (fun c => am_bne0 ?_)
        · rw [a2, b2]
          have ok := prs_ok hτ a b
          refine cw_measure hX _ _ (by omega) τ hτ hT a b (by omega) (by omega) _ (fun M' fr hz => ?_)
          have := h M' fr
          refine ⟨fun (q : ¬ o = 0) => am_cc (by omega) (cw_meanY hX _ _ (by omega) (prs τ a b) hz ok.1 _ (fun v => ?_) (fun v => ?_)), fun (q : ¬ ¬ o = 0) => am_cc (by omega) (cw_meanX hX _ _ (by omega) (prs τ a b) hz ok.1 _ (fun v => ?_) (fun v => ?_))⟩
          · rw [if_pos (Or.inr (Or.inr v))] at this; exact this
          · rw [if_neg (fun z => z.elim y (fun z => z.elim (fun z => z ⟨o1, o2⟩) v)), if_neg q] at this; exact this
          · rw [if_pos (Or.inr (Or.inr v))] at this; exact this
          · rw [if_neg (fun z => z.elim y (fun z => z.elim (fun z => z ⟨o1, o2⟩) v)), if_pos (Classical.not_not.mp q)] at this; exact this
        · rw [if_pos (Or.inr (Or.inl c))] at h
          exact h M (am_fr_rf _ _)
    · rw [eW] at c
      have := h M (am_fr_rf _ _)
      unfold q_level at this
      rw [q_ww_n2 (ix_n (by omega) c)] at this; exact this
  · rw [eW] at c
    have := h M (am_fr_rf _ _)
    unfold q_level at this
    rw [q_ww_n1 (ix_n (by omega) c)] at this; exact this
set_option maxHeartbeats 1000000 in
theorem cw_right {X : am_X} (hX : am_Cl X) (d : Nat) (M : am_M) (hd : 2 ≤ d) (τ : ta) (hτ : ta_ok τ) (hT : rc_T M τ) (W : Nat) (hW : W ≤ 3) (eW : M.1 1 0 1 = nI W) (w u : Int32) (Q : am_P)
    (h0 : (ix w W = none ∨ ix u W = none) → Q (some (.inl (-1))) M) (h1 : ∀ a b, ix w W = some a → ix u W = some b → a < W → b < W → a = b → Q (some (.inl (-2))) M)
    (h2 : ∀ a b, ix w W = some a → ix u W = some b → a < W → b < W → ¬ a = b → (prs τ a b).1 = 0 → ∀ M', am_fr [17] M M' → Q (some (.inl (-3))) M')
    (h3 : ∀ a b, ix w W = some a → ix u W = some b → a < W → b < W → ¬ a = b → ¬ (prs τ a b).1 = 0 → ∀ M', am_fr [17] M M' → Q (some (.inl (rg_n τ a b))) (am_si (am_si (am_si M' 2 0 b (rg_a τ a b)) 3 0 b (rg_b τ a b)) 1 0 0 1)) : X d 23 0 [some (.inr (.inl (0, 0))), some (.inl (w)), some (.inl (u)), none, none, none] [] M Q := by
  refine am_go hX [52] 80 ?_
  refine am_cc (by omega) (cw_isWatcher hX _ _ _ _ (fun w1 w2 => am_beq1 (am_cc (by omega) ?_)) (fun c => am_beq0 ?_))
  · rw [eW] at w2
    obtain ⟨a, a1, a2, a3⟩ := ix_y (by omega) w1 w2
    refine cw_isWatcher hX _ _ _ _ (fun u1 u2 => am_bne1 ?_) (fun c => am_bne0 ?_)
    · rw [eW] at u2
      obtain ⟨b, b1, b2, b3⟩ := ix_y (by omega) u1 u2
      refine ⟨fun (y : ¬ w = u) => am_cc (by omega) ?_, fun (y : ¬ ¬ w = u) => ?_⟩
      · rw [a2, b2] at y
        have y : ¬ a = b := fun v => y (by rw [v])
        rw [a2, b2]
        have ok := prs_ok hτ a b
        refine cw_measure hX _ _ (by omega) τ hτ hT a b (by omega) (by omega) _ (fun M' fr hz => ?_)
        have a3' : a < 3 := by omega
        have b3' : b < 3 := by omega
        have hT' := am_fr_T hT fr
        obtain ⟨z1, z2, z3⟩ := id hz
        refine ⟨fun (q : ¬ M'.1 17 0 0 = 0) => ?_, fun (q : ¬ ¬ M'.1 17 0 0 = 0) => ?_⟩
        · rw [z1] at q
          have q : ¬ (prs τ a b).1 = 0 := fun v => q (by rw [v]; rfl)
          have h3 := h3 a b a3 b3 a1 b1 y q M' fr
          refine ⟨a, a3', rfl, am_cc (by omega) ?_⟩
          refine cw_meanX hX _ _ (by omega) (prs τ a b) hz ok.1 _ (fun v => absurd v q) (fun _ => am_cc (by omega) ?_)
          refine (fun (v : X (d - 1) 26 0 [some (.inl (M'.1 2 0 a - lb_fd (prs τ a b).2.1 (nI (prs τ a b).1)))] [] M' _) => v) ?_
          refine cw_keptWithin hX _ _ (by omega) _ _ ?_
          refine ⟨a, a3', rfl, am_cc (by omega) ?_⟩
          refine cw_meanY hX _ _ (by omega) (prs τ a b) hz ok.1 _ (fun v => absurd v q) (fun _ => am_cc (by omega) ?_)
          refine (fun (v : X (d - 1) 26 0 [some (.inl (M'.1 3 0 a - lb_fd (prs τ a b).2.2 (nI (prs τ a b).1)))] [] M' _) => v) ?_
          refine cw_keptWithin hX _ _ (by omega) _ _ ?_
          refine (fun (v : X d 23 52 [some (.inr (.inl (0, 0))), some (.inl (nI a)), some (.inl (nI b)), some (.inl (k50 (M'.1 2 0 a - lb_fd (prs τ a b).2.1 (nI (prs τ a b).1)))), some (.inl (k50 (M'.1 3 0 a - lb_fd (prs τ a b).2.2 (nI (prs τ a b).1)))), none] [] M' Q) => v) ?_
          have ea : k50 (M'.1 2 0 a - lb_fd (prs τ a b).2.1 (nI (prs τ a b).1)) = rg_a τ a b := by rw [(hT'.2.1 a a3').1]; rfl
          have eb : k50 (M'.1 3 0 a - lb_fd (prs τ a b).2.2 (nI (prs τ a b).1)) = rg_b τ a b := by rw [(hT'.2.1 a a3').2]; rfl
          rw [ea, eb]
          have sa : M'.1 2 0 b = ta_sa τ b := (hT'.2.1 b b3').1
          have sb : M'.1 3 0 b = ta_sb τ b := (hT'.2.1 b b3').2
          unfold rg_n at h3
          refine am_go hX [] 60 ?_
          refine ⟨b, b3', rfl, fun (v : rg_a τ a b = M'.1 2 0 b) => ⟨b, b3', rfl, fun (v2 : rg_b τ a b = M'.1 3 0 b) => ⟨b, b3', rfl, b, b3', rfl, Or.inr rfl, ?_⟩, fun (v2 : ¬ rg_b τ a b = M'.1 3 0 b) => ⟨b, b3', rfl, b, b3', rfl, Or.inr rfl, ?_⟩⟩, fun (v : ¬ rg_a τ a b = M'.1 2 0 b) => ⟨b, b3', rfl, fun (v2 : rg_b τ a b = M'.1 3 0 b) => ⟨b, b3', rfl, b, b3', rfl, Or.inr rfl, ?_⟩, fun (v2 : ¬ rg_b τ a b = M'.1 3 0 b) => ⟨b, b3', rfl, b, b3', rfl, Or.inr rfl, ?_⟩⟩⟩
          · rw [if_pos (v.trans sa), if_pos (v2.trans sb)] at h3; exact h3
          · rw [if_pos (v.trans sa), if_neg (fun k => v2 (k.trans sb.symm))] at h3; exact h3
          · rw [if_neg (fun k => v (k.trans sa.symm)), if_pos (v2.trans sb)] at h3; exact h3
          · rw [if_neg (fun k => v (k.trans sa.symm)), if_neg (fun k => v2 (k.trans sb.symm))] at h3; exact h3
        · have q := Classical.not_not.mp q
          rw [z1] at q
          exact h2 a b a3 b3 a1 b1 y ((nI_eq (b := 0) (by have := ok.1; omega) (by omega)).mp q) M' fr
      · rw [a2, b2] at y
        exact h1 a b a3 b3 a1 b1 ((nI_eq (by omega) (by omega)).mp (Classical.not_not.mp y))
    · rw [eW] at c
      exact h0 (Or.inr (ix_n (by omega) c))
  · rw [eW] at c
    exact h0 (Or.inl (ix_n (by omega) c))
end
section
/-! pairs, level, right: the reference -/
def rm_P (M M' : am_M) : Prop := am_fr [28] M M' ∧ ∀ k, k ≠ 37 → k ≠ 38 → M'.1 28 0 k = M.1 28 0 k
theorem rm_P_rf (M : am_M) : rm_P M M := ⟨am_fr_rf _ _, fun _ _ _ => rfl⟩
theorem rm_P_si {M M' : am_M} {k : Nat} {x : Int32} (h : rm_P M M') (hk : k = 37 ∨ k = 38) : rm_P M (am_si M' 28 0 k x) := ⟨am_fr_si h.1 (by simp), fun j h1 h2 => by rw [am_si_at, if_neg (by omega)]; exact h.2 j h1 h2⟩
theorem rm_P_T {M M' : am_M} {τ : ta} (h : rm_T M τ) (fr : rm_P M M') : rm_T M' τ := rm_T_fr' h (am_fg_of fr.1 []) (fr.2 1 (by simp) (by simp)) (by simp)
set_option maxHeartbeats 2000000 in
theorem cm_pairsOf {X : am_X} (hX : am_Cl X) (d : Nat) (M : am_M) (τ : ta) (hτ : ta_ok τ) (hT : rm_T M τ) (w u : Nat) (hw : w < 3) (hu : u < 3) (Q : am_P) (h : ∀ M', rm_P M M' → M'.1 28 0 37 = (prs τ w u).2.1 → M'.1 28 0 38 = (prs τ w u).2.2 → Q (some (.inl (nI (prs τ w u).1))) M') : X d 128 0 [some (.inr (.inl (28, 0))), some (.inl (nI w)), some (.inl (nI u)), none, none, none, none, none] [] M Q := by
  have hn := hτ.1
  refine am_go hX [10] 40 ?_
  have lS : ∀ t s : Nat, s + t = ta_n τ → ∀ M' : am_M, rm_P M M' → ∀ z : pz, z = pr_s τ w u s → M'.1 28 0 37 = z.2.1 → M'.1 28 0 38 = z.2.2 → ∀ z5 z6 z7, X d 128 10 [some (.inr (.inl (28, 0))), some (.inl (nI w)), some (.inl (nI u)), some (.inl (nI z.1)), some (.inl (nI s)), z5, z6, z7] [] M' Q := by
    intro t
    induction t with
    | zero =>
      intro s hs M' fr z hz e1 e2 z5 z6 z7
      have hs : s = ta_n τ := by omega
      subst hs
      have e := (rm_P_T hT fr).1
      refine am_go hX [10] 40 ?_
      refine ⟨fun _ => ?_, fun (y : ¬ M'.1 28 0 1 ≤ nI (ta_n τ)) => absurd (by rw [e]; exact nI_le (Nat.le_refl _) (by omega)) y⟩
      subst hz
      exact h M' fr e1 e2
    | succ t ih =>
      intro s hs M' fr z hz e1 e2 z5 z6 z7
      have hsn : s < ta_n τ := by omega
      have bs := hτ.2.2.1 s hsn
      have lR : ∀ t2 r : Nat, r + t2 = ta_n τ → ∀ M' : am_M, rm_P M M' → ∀ z : pz, z = pr_r τ w u s r (pr_s τ w u s) → M'.1 28 0 37 = z.2.1 → M'.1 28 0 38 = z.2.2 → ∀ z6 z7, X d 128 16 [some (.inr (.inl (28, 0))), some (.inl (nI w)), some (.inl (nI u)), some (.inl (nI z.1)), some (.inl (nI s)), some (.inl (nI r)), z6, z7] [] M' Q := by
        intro t2
        induction t2 with
        | zero =>
          intro r hr M' fr z hz e1 e2 z6 z7
          have hr : r = ta_n τ := by omega
          subst hr
          have e := (rm_P_T hT fr).1
          refine am_go hX [10] 60 ?_
          refine ⟨fun _ => ?_, fun (y : ¬ M'.1 28 0 1 ≤ nI (ta_n τ)) => absurd (by rw [e]; exact nI_le (Nat.le_refl _) (by omega)) y⟩
          refine (fun (y : X d 128 10 [some (.inr (.inl (28, 0))), some (.inl (nI w)), some (.inl (nI u)), some (.inl (nI z.1)), some (.inl (nI s + 1)), some (.inl (nI (ta_n τ))), z6, z7] [] M' Q) => y) ?_
          rw [nI_1]
          exact ih (s + 1) (by omega) M' fr z hz e1 e2 _ _ _
        | succ t2 ih2 =>
          intro r hr M' fr z hz e1 e2 z6 z7
          have hrn : r < ta_n τ := by omega
          have br := hτ.2.2.1 r hrn
          have next : ∀ M' : am_M, rm_P M M' → ∀ z : pz, z = pr_r τ w u s (r + 1) (pr_s τ w u s) → M'.1 28 0 37 = z.2.1 → M'.1 28 0 38 = z.2.2 → ∀ z6 z7, X d 128 16 [some (.inr (.inl (28, 0))), some (.inl (nI w)), some (.inl (nI u)), some (.inl (nI z.1)), some (.inl (nI s)), some (.inl (nI r + 1)), z6, z7] [] M' Q := by
            intro M' fr z hz e1 e2 z6 z7
            rw [nI_1]
            exact ih2 (r + 1) (by omega) M' fr z hz e1 e2 _ _
          have s12 : s < 12 := by omega
          have r12 : r < 12 := by omega
          have hT' := rm_P_T hT fr
          have e := hT'.1
          have cs := hT'.2.2.1 s hsn
          have cr := hT'.2.2.1 r hrn
          have lA : pr_r τ w u s (r + 1) (pr_s τ w u s) = pr_a τ s r (ta_dn τ s) (pr_r τ w u s r (pr_s τ w u s)) → ∀ t3 a : Nat, a + t3 = ta_dn τ s → ∀ M' : am_M, rm_P M M' → ∀ z : pz, z = pr_a τ s r a (pr_r τ w u s r (pr_s τ w u s)) → M'.1 28 0 37 = z.2.1 → M'.1 28 0 38 = z.2.2 → ∀ z7, X d 128 46 [some (.inr (.inl (28, 0))), some (.inl (nI w)), some (.inl (nI u)), some (.inl (nI z.1)), some (.inl (nI s)), some (.inl (nI r)), some (.inl (nI (4 * s + a))), z7] [] M' Q := by
            intro hpr t3
            induction t3 with
            | zero =>
              intro a ha M' fr z hz e1 e2 z7
              have ha : a = ta_dn τ s := by omega
              subst ha
              have e : M'.1 33 0 s = nI (ta_dn τ s) := ((rm_P_T hT fr).2.2.1 s hsn).2.2.1
              refine am_go hX [16] 60 ?_
              refine ⟨s, s12, rfl, fun _ => next M' fr z (by rw [hz, hpr]) e1 e2 _ _, fun (y : ¬ 4 * nI s + M'.1 33 0 s ≤ nI (4 * s + ta_dn τ s)) => absurd ?_ y⟩
              rw [e, show (4 : Int32) = nI 4 from rfl, pk_mul, nI_add]; exact nI_le (Nat.le_refl _) (by omega)
            | succ t3 ih3 =>
              intro a ha M' fr z hz e1 e2 z7
              have had : a < ta_dn τ s := by omega
              have lB : ∀ t4 b : Nat, b + t4 = ta_dn τ r → ∀ M' : am_M, rm_P M M' → ∀ z : pz, z = pr_b τ s r a b (pr_a τ s r a (pr_r τ w u s r (pr_s τ w u s))) → M'.1 28 0 37 = z.2.1 → M'.1 28 0 38 = z.2.2 → X d 128 60 [some (.inr (.inl (28, 0))), some (.inl (nI w)), some (.inl (nI u)), some (.inl (nI z.1)), some (.inl (nI s)), some (.inl (nI r)), some (.inl (nI (4 * s + a))), some (.inl (nI (4 * r + b)))] [] M' Q := by
                intro t4
                induction t4 with
                | zero =>
                  intro b hb M' fr z hz e1 e2
                  have hb : b = ta_dn τ r := by omega
                  subst hb
                  have e : M'.1 33 0 r = nI (ta_dn τ r) := ((rm_P_T hT fr).2.2.1 r hrn).2.2.1
                  refine am_go hX [46] 60 ?_
                  refine ⟨r, r12, rfl, fun _ => ?_, fun (y : ¬ 4 * nI r + M'.1 33 0 r ≤ nI (4 * r + ta_dn τ r)) => absurd ?_ y⟩
                  · refine (fun (y : X d 128 46 [some (.inr (.inl (28, 0))), some (.inl (nI w)), some (.inl (nI u)), some (.inl (nI z.1)), some (.inl (nI s)), some (.inl (nI r)), some (.inl (nI (4 * s + a) + 1)), some (.inl (nI (4 * r + ta_dn τ r)))] [] M' Q) => y) ?_
                    rw [nI_1]
                    exact ih3 (a + 1) (by omega) M' fr z hz e1 e2 _
                  · rw [e, show (4 : Int32) = nI 4 from rfl, pk_mul, nI_add]; exact nI_le (Nat.le_refl _) (by omega)
                | succ t4 ih4 =>
                  intro b hb M' fr z hz e1 e2
                  have hbd : b < ta_dn τ r := by omega
                  have hT' := rm_P_T hT fr
                  have cs := hT'.2.2.1 s hsn
                  have cr := hT'.2.2.1 r hrn
                  have m1 : M'.1 36 0 (4 * s + a) = nI (ta_dm τ s a) := (cs.2.2.2 a had).2.2
                  have m2 : M'.1 36 0 (4 * r + b) = nI (ta_dm τ r b) := (cr.2.2.2 b hbd).2.2
                  have k1 := (bs.2.2.2 a had).2.2
                  have k2 := (br.2.2.2 b hbd).2.2
                  have la : 4 * s + a < 48 := by omega
                  have lb : 4 * r + b < 48 := by omega
                  have nextB : ∀ M' : am_M, rm_P M M' → ∀ z : pz, z = pr_b τ s r a (b + 1) (pr_a τ s r a (pr_r τ w u s r (pr_s τ w u s))) → M'.1 28 0 37 = z.2.1 → M'.1 28 0 38 = z.2.2 → X d 128 60 [some (.inr (.inl (28, 0))), some (.inl (nI w)), some (.inl (nI u)), some (.inl (nI z.1)), some (.inl (nI s)), some (.inl (nI r)), some (.inl (nI (4 * s + a))), some (.inl (nI (4 * r + b) + 1))] [] M' Q := by
                    intro M' fr z hz e1 e2
                    rw [nI_1]
                    exact ih4 (b + 1) (by omega) M' fr z hz e1 e2
                  refine am_go hX [60] 80 ?_
                  refine ⟨r, r12, rfl, fun (y : 4 * nI r + M'.1 33 0 r ≤ nI (4 * r + b)) => absurd y ?_, fun _ => ⟨4 * s + a, la, rfl, fun (y : M'.1 36 0 (4 * s + a) = 0) => ?_, fun (y : ¬ M'.1 36 0 (4 * s + a) = 0) => ⟨4 * s + a, la, rfl, 4 * r + b, lb, rfl, fun (v : M'.1 36 0 (4 * s + a) = M'.1 36 0 (4 * r + b)) => ⟨4 * r + b, lb, rfl, 4 * s + a, la, rfl, 4 * r + b, lb, rfl, 4 * s + a, la, rfl, ?_⟩, fun (v : ¬ M'.1 36 0 (4 * s + a) = M'.1 36 0 (4 * r + b)) => ?_⟩⟩⟩
                  · rw [cr.2.2.1, show (4 : Int32) = nI 4 from rfl, pk_mul, nI_add]; exact nI_ge (by omega) (by omega)
                  · rw [m1] at y
                    have y : ta_dm τ s a = 0 := (nI_eq (b := 0) (by omega) (by omega)).mp y
                    exact nextB M' fr z (by rw [pr_b, pr_d, if_pos (Or.inl y)]; exact hz) e1 e2
                  · rw [m1] at y
                    rw [m1, m2] at v
                    have y : ¬ ta_dm τ s a = 0 := fun v => y (by rw [v]; rfl)
                    have v := (nI_eq (by omega) (by omega)).mp v
                    refine (fun (q : X d 128 60 [some (.inr (.inl (28, 0))), some (.inl (nI w)), some (.inl (nI u)), some (.inl (nI z.1 + 1)), some (.inl (nI s)), some (.inl (nI r)), some (.inl (nI (4 * s + a))), some (.inl (nI (4 * r + b) + 1))] [] (am_si (am_si M' 28 0 37 (M'.1 28 0 37 + (M'.1 34 0 (4 * r + b) - M'.1 34 0 (4 * s + a)))) 28 0 38 (M'.1 28 0 38 + (M'.1 35 0 (4 * r + b) - M'.1 35 0 (4 * s + a)))) Q) => q) ?_
                    rw [nI_1 z.1, e1, e2, (cs.2.2.2 a had).1, (cr.2.2.2 b hbd).1, (cs.2.2.2 a had).2.1, (cr.2.2.2 b hbd).2.1]
                    refine nextB _ (rm_P_si (rm_P_si fr (Or.inl rfl)) (Or.inr rfl)) (z.1 + 1, z.2.1 + (ta_dx τ r b - ta_dx τ s a), z.2.2 + (ta_dy τ r b - ta_dy τ s a)) ?_ ?_ ?_
                    · rw [pr_b, pr_d, if_neg (fun q => q.elim y (fun q => q v)), ← hz]
                    · rw [am_si_at, if_neg (by omega), am_si_at, if_pos ⟨rfl, rfl, rfl⟩]
                    · rw [am_si_at, if_pos ⟨rfl, rfl, rfl⟩]
                  · rw [m1, m2] at v
                    exact nextB M' fr z (by rw [pr_b, pr_d, if_pos (Or.inr (fun q => v (by rw [q])))]; exact hz) e1 e2
              have e : M'.1 33 0 s = nI (ta_dn τ s) := ((rm_P_T hT fr).2.2.1 s hsn).2.2.1
              refine am_go hX [60] 60 ?_
              refine ⟨s, s12, rfl, fun (y : 4 * nI s + M'.1 33 0 s ≤ nI (4 * s + a)) => absurd y ?_, fun _ => ?_⟩
              · rw [e, show (4 : Int32) = nI 4 from rfl, pk_mul, nI_add]; exact nI_ge (by omega) (by omega)
              · refine (fun (y : X d 128 60 [some (.inr (.inl (28, 0))), some (.inl (nI w)), some (.inl (nI u)), some (.inl (nI z.1)), some (.inl (nI s)), some (.inl (nI r)), some (.inl (nI (4 * s + a))), some (.inl (4 * nI r))] [] M' Q) => y) ?_
                rw [show 4 * nI r = nI (4 * r + 0) by rw [show (4 : Int32) = nI 4 from rfl, pk_mul, Nat.add_zero]]
                exact lB (ta_dn τ r) 0 (by omega) M' fr z hz e1 e2
          refine am_go hX [10, 16, 46] 80 ?_
          refine ⟨fun (y : M'.1 28 0 1 ≤ nI r) => absurd y (by rw [e]; exact nI_ge hrn (by omega)), fun _ => ⟨s, s12, rfl, fun (y : ¬ M'.1 31 0 s = nI w) => ?_, fun (y : ¬ ¬ M'.1 31 0 s = nI w) => ⟨r, r12, rfl, fun (v : ¬ M'.1 31 0 r = nI u) => ?_, fun (v : ¬ ¬ M'.1 31 0 r = nI u) => ⟨s, s12, rfl, r, r12, rfl, fun (x : M'.1 32 0 s = M'.1 32 0 r) => ?_, fun (x : ¬ M'.1 32 0 s = M'.1 32 0 r) => ?_⟩⟩⟩⟩
          · rw [cs.1] at y
            exact next M' fr z (by rw [pr_r, if_neg (fun q => y (by rw [q.1]))]; exact hz) e1 e2 _ _
          · rw [cr.1] at v
            exact next M' fr z (by rw [pr_r, if_neg (fun q => v (by rw [q.2.1]))]; exact hz) e1 e2 _ _
          · have y := Classical.not_not.mp y
            have v := Classical.not_not.mp v
            rw [cs.1, nI_eq (by omega) (by omega)] at y
            rw [cr.1, nI_eq (by omega) (by omega)] at v
            rw [cs.2.1, cr.2.1, nI_eq (by omega) (by omega)] at x
            refine (fun (y : X d 128 46 [some (.inr (.inl (28, 0))), some (.inl (nI w)), some (.inl (nI u)), some (.inl (nI z.1)), some (.inl (nI s)), some (.inl (nI r)), some (.inl (4 * nI s)), z7] [] M' Q) => y) ?_
            rw [show 4 * nI s = nI (4 * s + 0) by rw [show (4 : Int32) = nI 4 from rfl, pk_mul, Nat.add_zero]]
            exact lA (by rw [pr_r, if_pos ⟨y, v, x⟩]) (ta_dn τ s) 0 (by omega) M' fr z hz e1 e2 _
          · rw [cs.2.1, cr.2.1] at x
            exact next M' fr z (by rw [pr_r, if_neg (fun q => x (by rw [q.2.2]))]; exact hz) e1 e2 _ _
      have e := (rm_P_T hT fr).1
      refine am_go hX [10, 16] 40 ?_
      refine ⟨fun (y : M'.1 28 0 1 ≤ nI s) => absurd y (by rw [e]; exact nI_ge hsn (by omega)), fun _ => ?_⟩
      exact lR (ta_n τ) 0 (by omega) M' fr z hz e1 e2 _ _
  refine (fun (y : X d 128 10 [some (.inr (.inl (28, 0))), some (.inl (nI w)), some (.inl (nI u)), some (.inl (nI 0)), some (.inl (nI 0)), none, none, none] [] (am_si (am_si M 28 0 37 0) 28 0 38 0) Q) => y) ?_
  refine lS (ta_n τ) 0 (by omega) _ (rm_P_si (rm_P_si (rm_P_rf M) (Or.inl rfl)) (Or.inr rfl)) (0, 0, 0) rfl ?_ ?_ _ _ _
  · rw [am_si_at, if_neg (by omega), am_si_at, if_pos ⟨rfl, rfl, rfl⟩]
  · rw [am_si_at, if_pos ⟨rfl, rfl, rfl⟩]
theorem cm_kept50 {X : am_X} (hX : am_Cl X) (d : Nat) (M : am_M) (v : Int32) (Q : am_P) (h : Q (some (.inl (k50 v))) M) : X d 131 0 [some (.inr (.inl (28, 0))), some (.inl (v))] [] M Q := by
  unfold k50 at h
  refine am_go hX [] 20 ?_
  refine ⟨fun (q : -50 ≤ v) => ⟨fun (q2 : v ≤ 50) => ?_, fun (q2 : ¬ v ≤ 50) => ?_⟩, fun (q : ¬ -50 ≤ v) => ?_⟩
  · rw [if_neg (Int32.not_lt.mpr q), if_neg (Int32.not_lt.mpr q2)] at h; exact h
  · rw [if_neg (Int32.not_lt.mpr q), if_pos (Int32.not_le.mp q2)] at h; exact h
  · rw [if_pos (Int32.not_le.mp q)] at h; exact h
theorem cm_cutX {X : am_X} (hX : am_Cl X) (d : Nat) (M : am_M) (τ : ta) (hτ : ta_ok τ) (a b : Nat) (x : Int32) (hx : x = (prs τ a b).2.1 ∨ x = (prs τ a b).2.2) (h0 : ¬ (prs τ a b).1 = 0) (Q : am_P) (h : Q (some (.inl (lb_fd x (nI (prs τ a b).1)))) M) : X d 102 0 [some (.inr (.inl (28, 0))), some (.inl (x)), some (.inl (nI (prs τ a b).1)), none] [] M Q := by
  obtain ⟨k1, k2, k3⟩ := prs_ok hτ a b
  refine cm_cut hX d M x _ 4608000 (by omega) ?_ ?_ (by rw [nI_toInt (by omega)]; omega) Q h
  · rcases hx with rfl | rfl <;> omega
  · rcases hx with rfl | rfl <;> omega
theorem cm_pairs {X : am_X} (hX : am_Cl X) (d : Nat) (M : am_M) (hd : 2 ≤ d) (τ : ta) (hτ : ta_ok τ) (hT : rm_T M τ) (W : Nat) (hW : W ≤ 3) (eW : M.1 28 0 0 = nI W) (w u : Int32) (Q : am_P) (h : ∀ M', rm_P M M' → Q (some (.inl (q_pairs τ W w u))) M') : X d 129 0 [some (.inr (.inl (28, 0))), some (.inl (w)), some (.inl (u))] [] M Q := by
  refine am_go hX [] 40 ?_
  refine am_cc (by omega) (cm_isWatcher hX _ _ (by omega) _ _ (fun w1 w2 => am_beq1 (am_cc (by omega) ?_)) (fun c => am_beq0 ?_))
  · rw [eW, ix_lt (by omega)] at w2
    obtain ⟨a, a1, a2, a3⟩ := ix_y (by omega) w1 w2
    refine cm_isWatcher hX _ _ (by omega) _ _ (fun u1 u2 => am_bne1 ?_) (fun c => am_bne0 ?_)
    · rw [eW, ix_lt (by omega)] at u2
      obtain ⟨b, b1, b2, b3⟩ := ix_y (by omega) u1 u2
      unfold q_pairs at h
      rw [q_ww_at a3 b3] at h
      refine ⟨fun (y : ¬ w = u) => am_cc (by omega) ?_, fun (y : ¬ ¬ w = u) => ?_⟩
      · rw [a2, b2] at y ⊢
        rw [if_neg (fun v => y (by rw [v]))] at h
        exact cm_pairsOf hX _ _ τ hτ hT a b (by omega) (by omega) _ (fun M' fr _ _ => h M' fr)
      · rw [a2, b2] at y
        rw [if_pos ((nI_eq (by omega) (by omega)).mp (Classical.not_not.mp y))] at h
        exact h M (rm_P_rf _)
    · rw [eW, ix_lt (by omega)] at c
      have := h M (rm_P_rf _)
      unfold q_pairs at this
      rw [q_ww_n2 (ix_n (by omega) c)] at this; exact this
  · rw [eW, ix_lt (by omega)] at c
    have := h M (rm_P_rf _)
    unfold q_pairs at this
    rw [q_ww_n1 (ix_n (by omega) c)] at this; exact this
theorem cm_level {X : am_X} (hX : am_Cl X) (d : Nat) (M : am_M) (hd : 2 ≤ d) (τ : ta) (hτ : ta_ok τ) (hT : rm_T M τ) (W : Nat) (hW : W ≤ 3) (eW : M.1 28 0 0 = nI W) (w u o : Int32) (Q : am_P) (h : ∀ M', rm_P M M' → Q (some (.inl (q_level τ W w u o))) M') : X d 130 0 [some (.inr (.inl (28, 0))), some (.inl (w)), some (.inl (u)), some (.inl (o)), none] [] M Q := by
  refine am_go hX [] 60 ?_
  refine am_cc (by omega) (cm_isWatcher hX _ _ (by omega) _ _ (fun w1 w2 => am_beq1 (am_cc (by omega) ?_)) (fun c => am_beq0 ?_))
  · rw [eW, ix_lt (by omega)] at w2
    obtain ⟨a, a1, a2, a3⟩ := ix_y (by omega) w1 w2
    refine cm_isWatcher hX _ _ (by omega) _ _ (fun u1 u2 => am_beq1 ?_) (fun c => am_beq0 ?_)
    · rw [eW, ix_lt (by omega)] at u2
      obtain ⟨b, b1, b2, b3⟩ := ix_y (by omega) u1 u2
      unfold q_level at h
      rw [q_ww_at a3 b3] at h
      refine ⟨fun (y : w = u) => ?_, fun (y : ¬ w = u) => am_cc (by omega) ?_⟩
      · rw [a2, b2] at y
        rw [if_pos (Or.inl ((nI_eq (by omega) (by omega)).mp y))] at h
        exact h M (rm_P_rf _)
      · rw [a2, b2] at y
        have y : ¬ a = b := fun v => y (by rw [v])
        refine cm_in hX _ _ _ _ _ _ (fun o1 o2 => am_bne1 (am_cc (by omega) ?_)) (fun c => am_bne0 ?_)
        · rw [a2, b2]
          have ok := prs_ok hτ a b
          refine cm_pairsOf hX _ _ τ hτ hT a b (by omega) (by omega) _ (fun M' fr ex ey => ?_)
          have := h M' fr
          refine ⟨fun (v : ¬ nI (prs τ a b).1 = 0) => ?_, fun (v : ¬ ¬ nI (prs τ a b).1 = 0) => ?_⟩
          · have v : ¬ (prs τ a b).1 = 0 := fun k => v (by rw [k]; rfl)
            rw [if_neg (fun z => z.elim y (fun z => z.elim (fun z => z ⟨o1, o2⟩) v))] at this
            refine ⟨fun (q : ¬ o = 0) => am_cc (by omega) ?_, fun (q : ¬ ¬ o = 0) => am_cc (by omega) ?_⟩
            · rw [if_neg q] at this
              refine (fun (k : X (d - 1) 102 0 [some (.inr (.inl (28, 0))), some (.inl (M'.1 28 0 38)), some (.inl (nI (prs τ a b).1)), none] [] M' _) => k) ?_
              rw [ey]
              exact cm_cutX hX _ _ τ hτ a b _ (Or.inr rfl) v _ this
            · rw [if_pos (Classical.not_not.mp q)] at this
              refine (fun (k : X (d - 1) 102 0 [some (.inr (.inl (28, 0))), some (.inl (M'.1 28 0 37)), some (.inl (nI (prs τ a b).1)), none] [] M' _) => k) ?_
              rw [ex]
              exact cm_cutX hX _ _ τ hτ a b _ (Or.inl rfl) v _ this
          · have v := Classical.not_not.mp v
            rw [if_pos (Or.inr (Or.inr ((nI_eq (b := 0) (by have := ok.1; omega) (by omega)).mp v)))] at this; exact this
        · rw [if_pos (Or.inr (Or.inl c))] at h
          exact h M (rm_P_rf _)
    · rw [eW, ix_lt (by omega)] at c
      have := h M (rm_P_rf _)
      unfold q_level at this
      rw [q_ww_n2 (ix_n (by omega) c)] at this; exact this
  · rw [eW, ix_lt (by omega)] at c
    have := h M (rm_P_rf _)
    unfold q_level at this
    rw [q_ww_n1 (ix_n (by omega) c)] at this; exact this
set_option maxHeartbeats 1000000 in
theorem cm_right {X : am_X} (hX : am_Cl X) (d : Nat) (M : am_M) (hd : 2 ≤ d) (τ : ta) (hτ : ta_ok τ) (hT : rm_T M τ) (W : Nat) (hW : W ≤ 3) (eW : M.1 28 0 0 = nI W) (w u : Int32) (Q : am_P)
    (h0 : (ix w W = none ∨ ix u W = none) → Q (some (.inl (-1))) M) (h1 : ∀ a b, ix w W = some a → ix u W = some b → a < W → b < W → a = b → Q (some (.inl (-2))) M)
    (h2 : ∀ a b, ix w W = some a → ix u W = some b → a < W → b < W → ¬ a = b → (prs τ a b).1 = 0 → ∀ M', rm_P M M' → Q (some (.inl (-3))) M')
    (h3 : ∀ a b, ix w W = some a → ix u W = some b → a < W → b < W → ¬ a = b → ¬ (prs τ a b).1 = 0 → ∀ M', rm_P M M' → Q (some (.inl (rg_n τ a b))) (am_si (am_si (am_si M' 29 0 b (rg_a τ a b)) 30 0 b (rg_b τ a b)) 28 0 16 1)) : X d 132 0 [some (.inr (.inl (28, 0))), some (.inl (w)), some (.inl (u)), none, none, none, none] [] M Q := by
  refine am_go hX [50] 80 ?_
  refine am_cc (by omega) (cm_isWatcher hX _ _ (by omega) _ _ (fun w1 w2 => am_beq1 (am_cc (by omega) ?_)) (fun c => am_beq0 ?_))
  · rw [eW, ix_lt (by omega)] at w2
    obtain ⟨a, a1, a2, a3⟩ := ix_y (by omega) w1 w2
    refine cm_isWatcher hX _ _ (by omega) _ _ (fun u1 u2 => am_bne1 ?_) (fun c => am_bne0 ?_)
    · rw [eW, ix_lt (by omega)] at u2
      obtain ⟨b, b1, b2, b3⟩ := ix_y (by omega) u1 u2
      refine ⟨fun (y : ¬ w = u) => am_cc (by omega) ?_, fun (y : ¬ ¬ w = u) => ?_⟩
      · rw [a2, b2] at y
        have y : ¬ a = b := fun v => y (by rw [v])
        rw [a2, b2]
        have ok := prs_ok hτ a b
        refine cm_pairsOf hX _ _ τ hτ hT a b (by omega) (by omega) _ (fun M' fr ex ey => ?_)
        have a3' : a < 3 := by omega
        have b3' : b < 3 := by omega
        have hT' := rm_P_T hT fr
        refine ⟨fun (q : ¬ nI (prs τ a b).1 = 0) => ?_, fun (q : ¬ ¬ nI (prs τ a b).1 = 0) => ?_⟩
        · have q : ¬ (prs τ a b).1 = 0 := fun v => q (by rw [v]; rfl)
          have h3 := h3 a b a3 b3 a1 b1 y q M' fr
          refine ⟨a, a3', rfl, am_cc (by omega) ?_⟩
          refine (fun (k : X (d - 1) 102 0 [some (.inr (.inl (28, 0))), some (.inl (M'.1 28 0 37)), some (.inl (nI (prs τ a b).1)), none] [] M' _) => k) ?_
          rw [ex]
          refine cm_cutX hX _ _ τ hτ a b _ (Or.inl rfl) q _ (am_cc (by omega) ?_)
          refine (fun (v : X (d - 1) 131 0 [some (.inr (.inl (28, 0))), some (.inl (M'.1 29 0 a - lb_fd (prs τ a b).2.1 (nI (prs τ a b).1)))] [] M' _) => v) ?_
          refine cm_kept50 hX _ _ _ _ ?_
          refine ⟨a, a3', rfl, am_cc (by omega) ?_⟩
          refine (fun (k : X (d - 1) 102 0 [some (.inr (.inl (28, 0))), some (.inl (M'.1 28 0 38)), some (.inl (nI (prs τ a b).1)), none] [] M' _) => k) ?_
          rw [ey]
          refine cm_cutX hX _ _ τ hτ a b _ (Or.inr rfl) q _ (am_cc (by omega) ?_)
          refine (fun (v : X (d - 1) 131 0 [some (.inr (.inl (28, 0))), some (.inl (M'.1 30 0 a - lb_fd (prs τ a b).2.2 (nI (prs τ a b).1)))] [] M' _) => v) ?_
          refine cm_kept50 hX _ _ _ _ ?_
          refine (fun (v : X d 132 50 [some (.inr (.inl (28, 0))), some (.inl (nI a)), some (.inl (nI b)), some (.inl (nI (prs τ a b).1)), some (.inl (k50 (M'.1 29 0 a - lb_fd (prs τ a b).2.1 (nI (prs τ a b).1)))), some (.inl (k50 (M'.1 30 0 a - lb_fd (prs τ a b).2.2 (nI (prs τ a b).1)))), none] [] M' Q) => v) ?_
          have ea : k50 (M'.1 29 0 a - lb_fd (prs τ a b).2.1 (nI (prs τ a b).1)) = rg_a τ a b := by rw [(hT'.2.1 a a3').1]; rfl
          have eb : k50 (M'.1 30 0 a - lb_fd (prs τ a b).2.2 (nI (prs τ a b).1)) = rg_b τ a b := by rw [(hT'.2.1 a a3').2]; rfl
          rw [ea, eb]
          have sa : M'.1 29 0 b = ta_sa τ b := (hT'.2.1 b b3').1
          have sb : M'.1 30 0 b = ta_sb τ b := (hT'.2.1 b b3').2
          unfold rg_n at h3
          refine am_go hX [] 60 ?_
          refine ⟨b, b3', rfl, fun (v : rg_a τ a b = M'.1 29 0 b) => ⟨b, b3', rfl, fun (v2 : rg_b τ a b = M'.1 30 0 b) => ⟨b, b3', rfl, b, b3', rfl, Or.inr rfl, ?_⟩, fun (v2 : ¬ rg_b τ a b = M'.1 30 0 b) => ⟨b, b3', rfl, b, b3', rfl, Or.inr rfl, ?_⟩⟩, fun (v : ¬ rg_a τ a b = M'.1 29 0 b) => ⟨b, b3', rfl, fun (v2 : rg_b τ a b = M'.1 30 0 b) => ⟨b, b3', rfl, b, b3', rfl, Or.inr rfl, ?_⟩, fun (v2 : ¬ rg_b τ a b = M'.1 30 0 b) => ⟨b, b3', rfl, b, b3', rfl, Or.inr rfl, ?_⟩⟩⟩
          · rw [if_pos (v.trans sa), if_pos (v2.trans sb)] at h3; exact h3
          · rw [if_pos (v.trans sa), if_neg (fun k => v2 (k.trans sb.symm))] at h3; exact h3
          · rw [if_neg (fun k => v (k.trans sa.symm)), if_pos (v2.trans sb)] at h3; exact h3
          · rw [if_neg (fun k => v (k.trans sa.symm)), if_neg (fun k => v2 (k.trans sb.symm))] at h3; exact h3
        · have q := Classical.not_not.mp q
          exact h2 a b a3 b3 a1 b1 y ((nI_eq (b := 0) (by have := ok.1; omega) (by omega)).mp q) M' fr
      · rw [a2, b2] at y
        exact h1 a b a3 b3 a1 b1 ((nI_eq (by omega) (by omega)).mp (Classical.not_not.mp y))
    · rw [eW, ix_lt (by omega)] at c
      exact h0 (Or.inr (ix_n (by omega) c))
  · rw [eW, ix_lt (by omega)] at c
    exact h0 (Or.inl (ix_n (by omega) c))
end
section
/-! count, both sides -/
noncomputable def ct_e (P : Nat → Prop) : Nat → Nat
  | 0 => 0
  | e + 1 => ct_e P e + @ite _ (P e) (Classical.propDecidable (P e)) 1 0
noncomputable def ct_s (τ : ta) (P : Nat → Nat → Prop) : Nat → Nat
  | 0 => 0
  | s + 1 => ct_s τ P s + ct_e (P s) (ta_dn τ s)
theorem ct_y {P : Nat → Prop} {e : Nat} (h : P e) : ct_e P (e + 1) = ct_e P e + 1 := congrArg (ct_e P e + ·) (if_pos h)
theorem ct_n {P : Nat → Prop} {e : Nat} (h : ¬ P e) : ct_e P (e + 1) = ct_e P e + 0 := congrArg (ct_e P e + ·) (if_neg h)
theorem ct_T : ∀ e, ct_e (fun _ => True) e = e
  | 0 => rfl
  | e + 1 => by rw [ct_y trivial, ct_T e]
def cP3 : Nat → Nat → Prop := fun _ _ => True
def cP4 (τ : ta) : Nat → Nat → Prop := fun s e => wd_a (wn τ 0) s e = -1
def cP5 (τ : ta) : Nat → Nat → Prop := fun s e => ¬ sr_all τ s e
noncomputable def q_count (τ : ta) (W q : Nat) (u : Int32) : Int32 := if u.toInt = 0 then nI W else if u.toInt = 1 then nI (ta_n τ) else if u.toInt = 2 then nI q else if u.toInt = 3 then nI (ct_s τ cP3 (ta_n τ)) else if u.toInt = 4 then nI (ct_s τ (cP4 τ) (ta_n τ)) else if u.toInt = 5 then nI (ct_s τ (cP5 τ) (ta_n τ)) else -1
theorem cw_countDots {X : am_X} (hX : am_Cl X) (d : Nat) (M : am_M) (τ : ta) (hτ : ta_ok τ) (hT : rc_T M τ) (Q : am_P) (h : Q (some (.inl (nI (ct_s τ cP3 (ta_n τ))))) M) : X d 41 0 [some (.inr (.inl (1, 0))), none, none] [] M Q := by
  have hn := hτ.1
  have e := hT.1
  refine am_go hX [4] 20 ?_
  have loop : ∀ t s : Nat, s + t = ta_n τ → X d 41 4 [some (.inr (.inl (1, 0))), some (.inl (nI (ct_s τ cP3 s))), some (.inl (nI s))] [] M Q := by
    intro t
    induction t with
    | zero =>
      intro s hs
      have hs : s = ta_n τ := by omega
      subst hs
      refine am_go hX [4] 30 ?_
      exact ⟨fun _ => h, fun (q : ¬ M.1 1 0 2 ≤ nI (ta_n τ)) => absurd (by rw [e]; exact nI_le (Nat.le_refl _) (by omega)) q⟩
    | succ t ih =>
      intro s hs
      have ed : M.1 18 (M.2.1 4 s) 2 = nI (ta_dn τ s) := (hT.2.2.2.2.1 s (by omega)).2.2.1
      refine am_go hX [4] 30 ?_
      refine ⟨fun (q : M.1 1 0 2 ≤ nI s) => absurd q (by rw [e]; exact nI_ge (by omega) (by omega)), fun _ => ⟨s, by show s < 13; omega, rfl, ?_⟩⟩
      refine (fun (z : X d 41 4 [some (.inr (.inl (1, 0))), some (.inl (nI (ct_s τ cP3 s) + M.1 18 (M.2.1 4 s) 2)), some (.inl (nI s + 1))] [] M Q) => z) ?_
      have := ih (s + 1) (by omega)
      rw [ct_s, show ct_e (cP3 s) (ta_dn τ s) = ta_dn τ s from ct_T _] at this
      rw [nI_1, ed, nI_add]; exact this
  exact loop (ta_n τ) 0 (by omega)
theorem cw_countFalse {X : am_X} (hX : am_Cl X) (d : Nat) (M : am_M) (hd : 10 ≤ d) (τ : ta) (hτ : ta_ok τ) (hC : cC M τ) (Q : am_P) (h : ∀ M', rc_F M M' → cC M' τ → Q (some (.inl (nI (ct_s τ (cP4 τ) (ta_n τ))))) M') : X d 30 0 [some (.inr (.inl (0, 0))), none, none, none] [] M Q := by
  have hn := hτ.1
  have hl := wds_ok hτ
  refine am_go hX [9] 30 ?_
  refine am_cc (by omega) (cw_fresh hX _ _ (by omega) τ hτ hC _ (fun M' F R => ?_))
  have := h M' F (cR_C R)
  have e := R.1.1
  have outer : ∀ t s : Nat, s + t = ta_n τ → ∀ z3, X d 30 9 [some (.inr (.inl (0, 0))), some (.inl (nI (ct_s τ (cP4 τ) s))), some (.inl (nI s)), z3] [] M' Q := by
    intro t
    induction t with
    | zero =>
      intro s hs z3
      have hs : s = ta_n τ := by omega
      subst hs
      refine am_go hX [9] 30 ?_
      exact ⟨fun _ => this, fun (q : ¬ M'.1 1 0 2 ≤ nI (ta_n τ)) => absurd (by rw [e]; exact nI_le (Nat.le_refl _) (by omega)) q⟩
    | succ t ih =>
      intro s hs z3
      have hsn : s < ta_n τ := by omega
      have h4 := (hτ.2.2.1 s hsn).2.2.1
      have ed : M'.1 18 (M'.2.1 4 s) 2 = nI (ta_dn τ s) := (R.1.2.2.2.2.1 s hsn).2.2.1
      have ea : ∀ e, e < ta_dn τ s → M'.1 26 (4 * M'.2.1 8 0 + 0) (4 * s + e) = wd_a (wn τ 0) s e := fun e he => (cR_W R (i := 0) (by omega)).2.2.2 s e hsn he
      have s13 : s < 13 := by omega
      have inner : ∀ r e : Nat, e + r = ta_dn τ s → X d 30 16 [some (.inr (.inl (0, 0))), some (.inl (nI (ct_s τ (cP4 τ) s + ct_e (cP4 τ s) e))), some (.inl (nI s)), some (.inl (nI e))] [] M' Q := by
        intro r
        induction r with
        | zero =>
          intro e he
          have he : e = ta_dn τ s := by omega
          refine am_go hX [9] 40 ?_
          refine ⟨s, s13, rfl, fun _ => ?_, fun (q : ¬ M'.1 18 (M'.2.1 4 s) 2 ≤ nI e) => absurd (by rw [ed, he]; exact nI_le (Nat.le_refl _) (by omega)) q⟩
          refine (fun (z : X d 30 9 [some (.inr (.inl (0, 0))), some (.inl (nI (ct_s τ (cP4 τ) s + ct_e (cP4 τ s) e))), some (.inl (nI s + 1)), some (.inl (nI e))] [] M' Q) => z) ?_
          rw [nI_1, he]
          exact ih (s + 1) (by omega) _
        | succ r ihr =>
          intro e he
          have next : ∀ x, ct_e (cP4 τ s) (e + 1) = ct_e (cP4 τ s) e + x → X d 30 16 [some (.inr (.inl (0, 0))), some (.inl (nI (ct_s τ (cP4 τ) s + ct_e (cP4 τ s) e) + nI x)), some (.inl (nI s)), some (.inl (nI e + 1))] [] M' Q := by
            intro x hx
            rw [nI_1, nI_add, Nat.add_assoc, ← hx]
            exact ihr (e + 1) (by omega)
          refine am_go hX [9, 16] 40 ?_
          refine ⟨s, s13, rfl, fun (q : M'.1 18 (M'.2.1 4 s) 2 ≤ nI e) => absurd q (by rw [ed]; exact nI_ge (by omega) (by omega)), fun _ => ⟨0, by show 0 < 4; omega, rfl, am_cc (by omega) ?_⟩⟩
          refine cw_accountOf hX _ _ _ s e (by omega) (by omega) _ ?_
          refine ⟨fun (q : ¬ M'.1 26 (4 * M'.2.1 8 0 + 0) (4 * s + e) = -1) => ?_, fun (q : ¬ ¬ M'.1 26 (4 * M'.2.1 8 0 + 0) (4 * s + e) = -1) => ?_⟩
          · rw [ea e (by omega)] at q
            exact next 0 (ct_n q)
          · rw [ea e (by omega)] at q
            exact next 1 (ct_y (Classical.not_not.mp q))
      refine am_go hX [9, 16] 30 ?_
      refine ⟨fun (q : M'.1 1 0 2 ≤ nI s) => absurd q (by rw [e]; exact nI_ge hsn (by omega)), fun _ => ?_⟩
      exact inner (ta_dn τ s) 0 (by omega)
  exact outer (ta_n τ) 0 (by omega) none
theorem cw_countUnsure {X : am_X} (hX : am_Cl X) (d : Nat) (M : am_M) (hd : 10 ≤ d) (τ : ta) (hτ : ta_ok τ) (hC : cC M τ) (Q : am_P) (h : ∀ M', rc_F M M' → cC M' τ → Q (some (.inl (nI (ct_s τ (cP5 τ) (ta_n τ))))) M') : X d 31 0 [some (.inr (.inl (0, 0))), none, none, none] [] M Q := by
  have hn := hτ.1
  refine am_go hX [9] 30 ?_
  refine am_cc (by omega) (cw_fresh hX _ _ (by omega) τ hτ hC _ (fun M' F R => ?_))
  have := h M' F (cR_C R)
  have e := R.1.1
  have outer : ∀ t s : Nat, s + t = ta_n τ → ∀ z3, X d 31 9 [some (.inr (.inl (0, 0))), some (.inl (nI (ct_s τ (cP5 τ) s))), some (.inl (nI s)), z3] [] M' Q := by
    intro t
    induction t with
    | zero =>
      intro s hs z3
      have hs : s = ta_n τ := by omega
      subst hs
      refine am_go hX [9] 30 ?_
      exact ⟨fun _ => this, fun (q : ¬ M'.1 1 0 2 ≤ nI (ta_n τ)) => absurd (by rw [e]; exact nI_le (Nat.le_refl _) (by omega)) q⟩
    | succ t ih =>
      intro s hs z3
      have hsn : s < ta_n τ := by omega
      have h4 := (hτ.2.2.1 s hsn).2.2.1
      have ed : M'.1 18 (M'.2.1 4 s) 2 = nI (ta_dn τ s) := (R.1.2.2.2.2.1 s hsn).2.2.1
      have s13 : s < 13 := by omega
      have inner : ∀ r e : Nat, e + r = ta_dn τ s → X d 31 16 [some (.inr (.inl (0, 0))), some (.inl (nI (ct_s τ (cP5 τ) s + ct_e (cP5 τ s) e))), some (.inl (nI s)), some (.inl (nI e))] [] M' Q := by
        intro r
        induction r with
        | zero =>
          intro e he
          have he : e = ta_dn τ s := by omega
          refine am_go hX [9] 40 ?_
          refine ⟨s, s13, rfl, fun _ => ?_, fun (q : ¬ M'.1 18 (M'.2.1 4 s) 2 ≤ nI e) => absurd (by rw [ed, he]; exact nI_le (Nat.le_refl _) (by omega)) q⟩
          refine (fun (z : X d 31 9 [some (.inr (.inl (0, 0))), some (.inl (nI (ct_s τ (cP5 τ) s + ct_e (cP5 τ s) e))), some (.inl (nI s + 1)), some (.inl (nI e))] [] M' Q) => z) ?_
          rw [nI_1, he]
          exact ih (s + 1) (by omega) _
        | succ r ihr =>
          intro e he
          have next : ∀ x, ct_e (cP5 τ s) (e + 1) = ct_e (cP5 τ s) e + x → X d 31 16 [some (.inr (.inl (0, 0))), some (.inl (nI (ct_s τ (cP5 τ) s + ct_e (cP5 τ s) e) + nI x)), some (.inl (nI s)), some (.inl (nI e + 1))] [] M' Q := by
            intro x hx
            rw [nI_1, nI_add, Nat.add_assoc, ← hx]
            exact ihr (e + 1) (by omega)
          refine am_go hX [9, 16] 40 ?_
          refine ⟨s, s13, rfl, fun (q : M'.1 18 (M'.2.1 4 s) 2 ≤ nI e) => absurd q (by rw [ed]; exact nI_ge (by omega) (by omega)), fun _ => am_cc (by omega) ?_⟩
          refine cw_allAgree hX _ _ (by omega) τ hτ R s e hsn (by omega) _ (fun z => am_beq1 ?_) (fun z => am_beq0 ?_)
          · exact next 0 (ct_n (fun y => y z))
          · exact next 1 (ct_y z)
      refine am_go hX [9, 16] 30 ?_
      refine ⟨fun (q : M'.1 1 0 2 ≤ nI s) => absurd q (by rw [e]; exact nI_ge hsn (by omega)), fun _ => ?_⟩
      exact inner (ta_dn τ s) 0 (by omega)
  exact outer (ta_n τ) 0 (by omega) none
theorem cw_count {X : am_X} (hX : am_Cl X) (d : Nat) (M : am_M) (hd : 11 ≤ d) (τ : ta) (hτ : ta_ok τ) (hC : cC M τ) (W q : Nat) (eW : M.1 1 0 1 = nI W) (eq : M.1 18 (M.2.1 4 (ta_n τ)) 2 = nI q) (u : Int32) (Q : am_P) (h : ∀ M', rc_F M M' → cC M' τ → Q (some (.inl (q_count τ W q u))) M') : X d 24 0 [some (.inr (.inl (0, 0))), some (.inl (u))] [] M Q := by
  have hn := hτ.1
  unfold q_count at h
  have h0 := h M (rc_F_rf M) hC
  refine am_go hX [] 20 ?_
  refine ⟨fun (z : u.toInt < 0 ∨ 5 < u.toInt) => ?_, fun (z : u.toInt = 0) => ?_, fun (z : u.toInt = 1) => ?_, fun (z : u.toInt = 2) => am_cc (by omega) ?_, fun (z : u.toInt = 3) => am_cc (by omega) ?_, fun (z : u.toInt = 4) => am_cc (by omega) ?_, fun (z : u.toInt = 5) => am_cc (by omega) ?_, trivial⟩
  · rw [if_neg (by omega), if_neg (by omega), if_neg (by omega), if_neg (by omega), if_neg (by omega), if_neg (by omega)] at h0; exact h0
  · rw [if_pos z, ← eW] at h0; exact h0
  · rw [if_neg (by omega), if_pos z, ← hC.1.1] at h0; exact h0
  · rw [if_neg (by omega), if_neg (by omega), if_pos z, ← eq] at h0
    exact cw_waiting hX _ _ (ta_n τ) (by omega) hC.1.1 _ h0
  · rw [if_neg (by omega), if_neg (by omega), if_neg (by omega), if_pos z] at h0
    exact cw_countDots hX _ _ τ hτ hC.1 _ h0
  · refine cw_countFalse hX _ _ (by omega) τ hτ hC _ (fun M' F R => ?_)
    have := h M' F R
    rw [if_neg (by omega), if_neg (by omega), if_neg (by omega), if_neg (by omega), if_pos z] at this; exact this
  · refine cw_countUnsure hX _ _ (by omega) τ hτ hC _ (fun M' F R => ?_)
    have := h M' F R
    rw [if_neg (by omega), if_neg (by omega), if_neg (by omega), if_neg (by omega), if_neg (by omega), if_pos z] at this; exact this
set_option maxHeartbeats 1000000 in
theorem cm_count {X : am_X} (hX : am_Cl X) (d : Nat) (M : am_M) (hd : 5 ≤ d) (τ : ta) (hτ : ta_ok τ) (hC : mC M τ) (W q : Nat) (eW : M.1 28 0 0 = nI W) (eq : M.1 28 0 2 = nI q) (u : Int32) (Q : am_P) (h : ∀ M', rm_F M M' → mC M' τ → Q (some (.inl (q_count τ W q u))) M') : X d 133 0 [some (.inr (.inl (28, 0))), some (.inl (u)), none, none, none] [] M Q := by
  have hn := hτ.1
  have hl := wds_ok hτ
  unfold q_count at h
  refine am_go hX [17] 20 ?_
  refine am_cc (by omega) (cm_fresh hX _ _ (by omega) τ hτ hC _ (fun M' F R => ?_))
  have h0 := h M' F (mR_C R)
  have e1 : M'.1 28 0 1 = nI (ta_n τ) := R.1.1
  have eW' : M'.1 28 0 0 = nI W := (F.2 0 (by simp)).trans eW
  have eq' : M'.1 28 0 2 = nI q := (F.2 2 (by simp)).trans eq
  have loops : ∀ P : Nat → Nat → Prop, Q (some (.inl (nI (ct_s τ P (ta_n τ))))) M' →
      (∀ s e c : Nat, s < ta_n τ → e < ta_dn τ s → (P s e → X d 133 23 [some (.inr (.inl (28, 0))), some (.inl (u)), some (.inl (nI c + nI 1)), some (.inl (nI s)), some (.inl (nI e + 1))] [] M' Q) → (¬ P s e → X d 133 23 [some (.inr (.inl (28, 0))), some (.inl (u)), some (.inl (nI c + nI 0)), some (.inl (nI s)), some (.inl (nI e + 1))] [] M' Q) → X d 133 29 [some (.inr (.inl (28, 0))), some (.inl (u)), some (.inl (nI c)), some (.inl (nI s)), some (.inl (nI e))] [] M' Q) →
      X d 133 17 [some (.inr (.inl (28, 0))), some (.inl (u)), some (.inl (nI 0)), some (.inl (nI 0)), none] [] M' Q := by
    intro P hQ body
    have outer : ∀ t s : Nat, s + t = ta_n τ → ∀ z4, X d 133 17 [some (.inr (.inl (28, 0))), some (.inl (u)), some (.inl (nI (ct_s τ P s))), some (.inl (nI s)), z4] [] M' Q := by
      intro t
      induction t with
      | zero =>
        intro s hs z4
        have hs : s = ta_n τ := by omega
        subst hs
        refine am_go hX [17] 30 ?_
        exact ⟨fun _ => hQ, fun (q : ¬ M'.1 28 0 1 ≤ nI (ta_n τ)) => absurd (by rw [e1]; exact nI_le (Nat.le_refl _) (by omega)) q⟩
      | succ t ih =>
        intro s hs z4
        have hsn : s < ta_n τ := by omega
        have h4 := (hτ.2.2.1 s hsn).2.2.1
        have ed : M'.1 33 0 s = nI (ta_dn τ s) := (R.1.2.2.1 s hsn).2.2.1
        have s12 : s < 12 := by omega
        have inner : ∀ r e : Nat, e + r = ta_dn τ s → X d 133 23 [some (.inr (.inl (28, 0))), some (.inl (u)), some (.inl (nI (ct_s τ P s + ct_e (P s) e))), some (.inl (nI s)), some (.inl (nI e))] [] M' Q := by
          intro r
          induction r with
          | zero =>
            intro e he
            have he : e = ta_dn τ s := by omega
            refine am_go hX [17, 29] 40 ?_
            refine ⟨s, s12, rfl, fun _ => ?_, fun (q : ¬ M'.1 33 0 s ≤ nI e) => absurd (by rw [ed, he]; exact nI_le (Nat.le_refl _) (by omega)) q⟩
            refine (fun (z : X d 133 17 [some (.inr (.inl (28, 0))), some (.inl (u)), some (.inl (nI (ct_s τ P s + ct_e (P s) e))), some (.inl (nI s + 1)), some (.inl (nI e))] [] M' Q) => z) ?_
            rw [nI_1, he]
            exact ih (s + 1) (by omega) _
          | succ r ihr =>
            intro e he
            refine am_go hX [17, 29] 40 ?_
            refine ⟨s, s12, rfl, fun (q : M'.1 33 0 s ≤ nI e) => absurd q (by rw [ed]; exact nI_ge (by omega) (by omega)), fun _ => ?_⟩
            have hn1 := ihr (e + 1) (by omega)
            refine body s e (ct_s τ P s + ct_e (P s) e) hsn (by omega) (fun z => ?_) (fun z => ?_)
            · rw [ct_y z] at hn1
              rw [nI_1, nI_add, Nat.add_assoc]; exact hn1
            · rw [ct_n z] at hn1
              rw [nI_1, nI_add, Nat.add_assoc]; exact hn1
        refine am_go hX [17, 23] 30 ?_
        refine ⟨fun (q : M'.1 28 0 1 ≤ nI s) => absurd q (by rw [e1]; exact nI_ge hsn (by omega)), fun _ => ?_⟩
        exact inner (ta_dn τ s) 0 (by omega)
    exact outer (ta_n τ) 0 (by omega) none
  have i3 : (3 : Int32).toInt = 3 := by decide
  have i4 : (4 : Int32).toInt = 4 := by decide
  refine ⟨fun (z : u.toInt < 0 ∨ 5 < u.toInt) => ?_, fun (z : u.toInt = 0) => ?_, fun (z : u.toInt = 1) => ?_, fun (z : u.toInt = 2) => ?_, fun (z : u.toInt = 3) => ?_, fun (z : u.toInt = 4) => ?_, fun (z : u.toInt = 5) => ?_, trivial⟩
  · rw [if_neg (by omega), if_neg (by omega), if_neg (by omega), if_neg (by omega), if_neg (by omega), if_neg (by omega)] at h0; exact h0
  · rw [if_pos z, ← eW'] at h0; exact h0
  · rw [if_neg (by omega), if_pos z, ← e1] at h0; exact h0
  · rw [if_neg (by omega), if_neg (by omega), if_pos z, ← eq'] at h0; exact h0
  · rw [if_neg (by omega), if_neg (by omega), if_neg (by omega), if_pos z] at h0
    have u3 : u = 3 := iz_ext (z.trans i3.symm)
    refine loops cP3 h0 (fun s e c hs he y n => ?_)
    refine am_go hX [23] 30 ?_
    exact ⟨fun _ => y trivial, fun (q : ¬ u = 3) => absurd u3 q⟩
  · rw [if_neg (by omega), if_neg (by omega), if_neg (by omega), if_neg (by omega), if_pos z] at h0
    have u4 : u = 4 := iz_ext (z.trans i4.symm)
    refine loops (cP4 τ) h0 (fun s e c hs he y n => ?_)
    refine am_go hX [23] 30 ?_
    refine ⟨fun (q : u = 3) => by rw [q] at z; exact absurd z (by decide), fun _ => ⟨fun (q : ¬ u = 4) => absurd u4 q, fun _ => am_cc (by omega) ?_⟩⟩
    refine cm_accountOf hX _ _ τ hτ R 0 s e (by omega) hs he _ ?_
    exact ⟨fun (q : ¬ wd_a (wn τ 0) s e = -1) => n q, fun (q : ¬ ¬ wd_a (wn τ 0) s e = -1) => y (Classical.not_not.mp q)⟩
  · rw [if_neg (by omega), if_neg (by omega), if_neg (by omega), if_neg (by omega), if_neg (by omega), if_pos z] at h0
    refine loops (cP5 τ) h0 (fun s e c hs he y n => ?_)
    refine am_go hX [23] 30 ?_
    refine ⟨fun (q : u = 3) => by rw [q] at z; exact absurd z (by decide), fun _ => ⟨fun _ => am_cc (by omega) ?_, fun (q : ¬ ¬ u = 4) => by rw [Classical.not_not.mp q] at z; exact absurd z (by decide)⟩⟩
    refine cm_isSure hX _ _ (by omega) τ hτ R s e hs he _ (fun v => am_bne1 ?_) (fun v => am_bne0 ?_)
    · exact n (fun w => w v)
    · exact y v
end
section
/-! WHAT HOLDS BETWEEN TWO CALLS: watchers, dots that wait, what was told; the class's cells, the reference's -/
abbrev wa : Type := Nat × Nat × (Nat → Int32) × (Nat → Int32) × (Nat → Nat)
abbrev sg : Type := wa × ta
def sg_W (g : sg) : Nat := g.1.1
def sg_q (g : sg) : Nat := g.1.2.1
def sg_x (g : sg) : Nat → Int32 := g.1.2.2.1
def sg_y (g : sg) : Nat → Int32 := g.1.2.2.2.1
def sg_m (g : sg) : Nat → Nat := g.1.2.2.2.2
def iP (g : sg) : Prop := ta_ok g.2 ∧ sg_W g ≤ 3 ∧ sg_q g ≤ 4 ∧ (∀ e, e < sg_q g → ta_in (sg_x g e) 1000 ∧ ta_in (sg_y g e) 1000 ∧ sg_m g e ≤ 9) ∧ ∀ w, sg_W g ≤ w → w < 3 → ta_sa g.2 w = 0 ∧ ta_sb g.2 w = 0
def iC (M : am_M) (g : sg) : Prop := cC M g.2 ∧ M.1 1 0 1 = nI (sg_W g) ∧ M.1 18 (M.2.1 4 (ta_n g.2)) 2 = nI (sg_q g) ∧ ∀ e, e < sg_q g → M.1 19 (M.2.1 4 (ta_n g.2)) e = sg_x g e ∧ M.1 20 (M.2.1 4 (ta_n g.2)) e = sg_y g e ∧ M.1 21 (M.2.1 4 (ta_n g.2)) e = nI (sg_m g e)
def iM (M : am_M) (g : sg) : Prop := mC M g.2 ∧ M.1 28 0 0 = nI (sg_W g) ∧ M.1 28 0 2 = nI (sg_q g) ∧ ∀ e, e < sg_q g → M.1 37 0 e = sg_x g e ∧ M.1 38 0 e = sg_y g e ∧ M.1 39 0 e = nI (sg_m g e)
def sC (M M' : am_M) : Prop := ∀ f i k, 28 ≤ f → M'.1 f i k = M.1 f i k
def sM (M M' : am_M) : Prop := M'.2 = M.2 ∧ ∀ f i k, (f < 28 ∨ 58 < f) → M'.1 f i k = M.1 f i k
theorem sC_rf (M : am_M) : sC M M := fun _ _ _ _ => rfl
theorem sM_rf (M : am_M) : sM M M := ⟨rfl, fun _ _ _ _ => rfl⟩
theorem sC_si {M M' : am_M} {f i k : Nat} {x : Int32} (h : sC M M') (hf : f < 28) : sC M (am_si M' f i k x) := fun f' i' k' hf' => by rw [am_si_at, if_neg (by omega)]; exact h f' i' k' hf'
theorem sM_si {M M' : am_M} {f i k : Nat} {x : Int32} (h : sM M M') (hf : 28 ≤ f) (hf2 : f ≤ 58) : sM M (am_si M' f i k x) := ⟨h.1, fun f' i' k' hf' => by rw [am_si_at, if_neg (by omega)]; exact h.2 f' i' k' hf'⟩
theorem rc_D_fr {M M' : am_M} {L : List Nat} {τ : ta} (h : rc_D M τ) (fr : am_fr L M M') (hL : ∀ f ∈ [5, 8, 24, 26, 27], f ∉ L) : rc_D M' τ := by
  obtain ⟨d1, q1, q2, q3, q4, q5⟩ := h
  have v : ∀ f k, M'.2.1 f k = M.2.1 f k := fun f k => by rw [fr.1]
  refine ⟨fun i hi => (fr.2 5 _ _ (hL 5 (by simp))).trans (d1 i hi), (fr.2 8 _ _ (hL 8 (by simp))).trans q1, q2, by rw [v]; exact q3, by rw [v, v]; exact q4, fun i hi => ⟨?_, (q5 i hi).2⟩⟩
  rw [v]
  exact rc_W_fr (q5 i hi).1 (am_fg_of fr []) (fun f hf => hL f (by simp at hf ⊢; omega))
theorem rc_T_of {M M' : am_M} {τ : ta} (h : rc_T M τ) (e1 : M'.1 1 0 2 = M.1 1 0 2) (fv : ∀ i, M'.2.1 4 i = M.2.1 4 i) (f : ∀ g ∈ [2, 3, 6, 7, 18, 19, 20, 21], ∀ i k, M'.1 g i k = M.1 g i k) : rc_T M' τ := by
  obtain ⟨h1, h2, h3, h4, h5, h6, h7⟩ := h
  refine ⟨e1.trans h1, fun w hw => ⟨(f 2 (by simp) _ _).trans (h2 w hw).1, (f 3 (by simp) _ _).trans (h2 w hw).2⟩, fun i hi => by rw [fv]; exact h3 i hi, fun i j hi hj q => by rw [fv, fv] at q; exact h4 i j hi hj q, fun s hs => ?_, fun k hk => (f 7 (by simp) _ _).trans (h6 k hk), fun k hk => (f 6 (by simp) _ _).trans (h7 k hk)⟩
  obtain ⟨a1, a2, a3, a4⟩ := h5 s hs
  rw [fv]
  exact ⟨(f 18 (by simp) _ _).trans a1, (f 18 (by simp) _ _).trans a2, (f 18 (by simp) _ _).trans a3, fun e he => ⟨(f 19 (by simp) _ _).trans (a4 e he).1, (f 20 (by simp) _ _).trans (a4 e he).2.1, (f 21 (by simp) _ _).trans (a4 e he).2.2⟩⟩
/-- what is reckoned stays where its cells do -/
theorem cC_of {M M' : am_M} {L : List Nat} {τ τ' : ta} (h : cC M τ) (fr : am_fr L M M') (hL : ∀ f ∈ [5, 8, 16, 24, 26, 27], f ∉ L) (hT : rc_T M' τ') (h0 : M'.1 1 0 0 = 0 → M.1 1 0 0 = 0 ∧ τ' = τ) : cC M' τ' := by
  obtain ⟨-, ⟨s1, s2, s3⟩, h3, hD⟩ := h
  have v : ∀ f k, M'.2.1 f k = M.2.1 f k := fun f k => by rw [fr.1]
  refine ⟨hT, ⟨fun k hk => (fr.2 16 _ _ (hL 16 (by simp))).trans (s1 k hk), fun i hi => by rw [v]; exact s2 i hi, fun i j hi hj q => by rw [v, v] at q; exact s3 i j hi hj q⟩, by rw [v, v]; exact h3, fun q => ?_⟩
  obtain ⟨q, e⟩ := h0 q
  rw [e]
  exact rc_D_fr (hD q) fr (fun f hf => hL f (by simp at hf ⊢; omega))
theorem cC_fr {M M' : am_M} {L : List Nat} {τ : ta} (h : cC M τ) (fr : am_fr L M M') (hL : ∀ f ∈ [1, 2, 3, 5, 6, 7, 8, 16, 18, 19, 20, 21, 24, 26, 27], f ∉ L) : cC M' τ :=
  cC_of h fr (fun f hf => hL f (by simp at hf ⊢; omega)) (rc_T_fr h.1 (am_fg_of fr []) (fun f hf => hL f (by simp at hf ⊢; omega)) (by simp)) (fun q => ⟨by rw [fr.2 1 _ _ (hL 1 (by simp))] at q; exact q, rfl⟩)
theorem iC_fr {M M' : am_M} {L : List Nat} {g : sg} (h : iC M g) (fr : am_fr L M M') (hL : ∀ f ∈ [1, 2, 3, 5, 6, 7, 8, 16, 18, 19, 20, 21, 24, 26, 27], f ∉ L) : iC M' g := by
  obtain ⟨h1, h2, h3, h4⟩ := h
  have v : ∀ f k, M'.2.1 f k = M.2.1 f k := fun f k => by rw [fr.1]
  refine ⟨cC_fr h1 fr hL, (fr.2 1 _ _ (hL 1 (by simp))).trans h2, ?_, fun e he => ?_⟩
  · rw [v, fr.2 18 _ _ (hL 18 (by simp))]; exact h3
  · rw [v, fr.2 19 _ _ (hL 19 (by simp)), fr.2 20 _ _ (hL 20 (by simp)), fr.2 21 _ _ (hL 21 (by simp))]; exact h4 e he
theorem iC_sM {M M' : am_M} {g : sg} (h : iC M g) (s : sM M M') : iC M' g := by
  refine iC_fr (L := List.range' 28 31) h ⟨s.1, fun f i k hf => s.2 f i k ?_⟩ (fun f hf => ?_)
  · rw [List.mem_range'_1] at hf; omega
  · rw [List.mem_range'_1]; simp at hf; omega
theorem rm_D_fr {M M' : am_M} {L : List Nat} {τ : ta} (h : rm_D M τ) (fr : am_fr L M M') (hL : ∀ f, 42 ≤ f → f ≤ 54 → f ∉ L) (e1 : M'.1 28 0 18 = M.1 28 0 18) (e2 : M'.1 28 0 19 = M.1 28 0 19) : rm_D M' τ := by
  obtain ⟨d1, q1, q2, b, q3, q4, q5⟩ := h
  exact ⟨fun i hi => (fr.2 42 _ _ (hL 42 (by omega) (by omega))).trans (d1 i hi), e1.trans q1, q2, b, q3, e2.trans q4, fun i hi => ⟨rm_W_fr (q5 i hi).1 fr (fun f f1 f2 => hL f (by omega) f2), (q5 i hi).2⟩⟩
theorem mC_fr {M M' : am_M} {L : List Nat} {τ : ta} (h : mC M τ) (fr : am_fr L M M') (hL : ∀ f, 29 ≤ f → f ≤ 54 → f ∉ L) (e1 : ∀ k, k = 1 ∨ k = 16 ∨ k = 18 ∨ k = 19 → M'.1 28 0 k = M.1 28 0 k) : mC M' τ := by
  obtain ⟨hT, hE, hD⟩ := h
  refine ⟨rm_T_fr' hT (am_fg_of (am_fr_mono (L' := 28 :: L) fr (fun f hf => List.mem_cons_of_mem _ hf)) []) (e1 1 (Or.inl rfl)) (fun f hf => fun z => by
    rcases List.mem_cons.mp z with z | z
    · simp at hf; omega
    · exact hL f (by simp at hf; omega) (by simp at hf; omega) z), fun k hk => ?_, fun q => ?_⟩
  · rw [fr.2 54 _ _ (hL 54 (by omega) (by omega))]; exact hE k hk
  · rw [e1 16 (by simp)] at q
    exact rm_D_fr (hD q) fr (fun f f1 f2 => hL f (by omega) f2) (e1 18 (by simp)) (e1 19 (by simp))
theorem iM_sC {M M' : am_M} {g : sg} (h : iM M g) (s : sC M M') : iM M' g := by
  obtain ⟨h1, h2, h3, h4⟩ := h
  have fr : am_fr (List.range 28) M (M'.1, M.2) := ⟨rfl, fun f i k hf => s f i k (by rw [List.mem_range] at hf; omega)⟩
  refine ⟨?_, (s 28 0 0 (by omega)).trans h2, (s 28 0 2 (by omega)).trans h3, fun e he => ?_⟩
  · have := mC_fr (M' := (M'.1, M.2)) (L := List.range 28) h1 fr (fun f f1 f2 => by rw [List.mem_range]; omega) (fun k _ => s 28 0 k (by omega))
    exact this
  · rw [s 37 _ _ (by omega), s 38 _ _ (by omega), s 39 _ _ (by omega)]; exact h4 e he
/-- questions: what they leave -/
theorem sC_F {M M' : am_M} (F : rc_F M M') : sC M M' := fun f i k hf => F.2.1 f i k (by simp; omega)
theorem iC_F {M M' : am_M} {g : sg} (h : iC M g) (F : rc_F M M') (hC : cC M' g.2) : iC M' g := by
  obtain ⟨h1, h2, h3, h4⟩ := h
  refine ⟨hC, (F.2.2 1 (by omega)).trans h2, ?_, fun e he => ?_⟩
  · rw [F.1 4 _ (by simp), F.2.1 18 _ _ (by simp)]; exact h3
  · rw [F.1 4 _ (by simp), F.2.1 19 _ _ (by simp), F.2.1 20 _ _ (by simp), F.2.1 21 _ _ (by simp)]; exact h4 e he
theorem sM_F {M M' : am_M} (F : rm_F M M') : sM M M' := ⟨F.1.1, fun f i k hf => F.1.2 f i k (by simp; omega)⟩
theorem iM_F {M M' : am_M} {g : sg} (h : iM M g) (F : rm_F M M') (hC : mC M' g.2) : iM M' g := by
  obtain ⟨h1, h2, h3, h4⟩ := h
  refine ⟨hC, (F.2 0 (by simp)).trans h2, (F.2 2 (by simp)).trans h3, fun e he => ?_⟩
  rw [F.1.2 37 _ _ (by simp), F.1.2 38 _ _ (by simp), F.1.2 39 _ _ (by simp)]; exact h4 e he
theorem sC_17 {M M' : am_M} (fr : am_fr [17] M M') : sC M M' := fun f i k hf => fr.2 f i k (by simp; omega)
theorem iC_17 {M M' : am_M} {g : sg} (h : iC M g) (fr : am_fr [17] M M') : iC M' g := iC_fr h fr (fun f hf => by simp at hf ⊢; omega)
theorem sM_P {M M' : am_M} (F : rm_P M M') : sM M M' := ⟨F.1.1, fun f i k hf => F.1.2 f i k (by simp; omega)⟩
theorem iM_P {M M' : am_M} {g : sg} (h : iM M g) (F : rm_P M M') : iM M' g := by
  obtain ⟨h1, h2, h3, h4⟩ := h
  refine ⟨mC_fr h1 F.1 (fun f f1 f2 => by simp; omega) (fun k hk => F.2 k (by omega) (by omega)), (F.2 0 (by simp) (by simp)).trans h2, (F.2 2 (by simp) (by simp)).trans h3, fun e he => ?_⟩
  rw [F.1.2 37 _ _ (by simp), F.1.2 38 _ _ (by simp), F.1.2 39 _ _ (by simp)]; exact h4 e he
/-- a call of the class, a call of the reference: from what holds to what holds, the answer ans -/
def dC (X : am_X) (d y : Nat) (ls : List (Option am_V)) (g g' : sg) (ans : Int32) : Prop := ∀ (M : am_M), iC M g → ∀ Q : am_P, (∀ M', sC M M' → iC M' g' → Q (some (.inl (ans))) M') → X d y 0 ls [] M Q
def dM (X : am_X) (d y : Nat) (ls : List (Option am_V)) (g g' : sg) (ans : Int32) : Prop := ∀ (M : am_M), iM M g → ∀ Q : am_P, (∀ M', sM M M' → iM M' g' → Q (some (.inl (ans))) M') → X d y 0 ls [] M Q
end
section
/-! WHAT A CALL DOES, purely: the calls that tell -/
def fu {α : Type} (f : Nat → α) (k : Nat) (x : α) : Nat → α := fun j => if j = k then x else f j
theorem fu_at {α : Type} (f : Nat → α) (k : Nat) (x : α) : fu f k x k = x := if_pos rfl
theorem fu_ne {α : Type} (f : Nat → α) {k j : Nat} (x : α) (h : j ≠ k) : fu f k x j = f j := if_neg h
def op_watcher (g : sg) : sg × Int32 := if sg_W g = 3 then (g, -4) else (((sg_W g + 1, g.1.2), g.2), nI (sg_W g))
def ta_sh (τ : ta) (k : Nat) (a b : Int32) : ta := (ta_n τ, fu (ta_sa τ) k a, fu (ta_sb τ) k b, ta_wt τ, ta_mo τ, ta_dn τ, ta_dx τ, ta_dy τ, ta_dm τ, ta_kd τ, ta_ru τ)
def op_shift (g : sg) (w a b : Int32) : sg × Int32 := match ix w (sg_W g) with
  | some k => if (-50 ≤ a ∧ a ≤ 50) ∧ (-50 ≤ b ∧ b ≤ 50) then ((g.1, ta_sh g.2 k a b), 0) else (g, -2)
  | none => (g, -1)
def op_dot (g : sg) (x y k : Int32) : sg × Int32 := if (-1000 ≤ x ∧ x ≤ 1000) ∧ (-1000 ≤ y ∧ y ≤ 1000) ∧ (0 ≤ k ∧ k ≤ 9) then (if sg_q g = 4 then (g, -4) else (((sg_W g, sg_q g + 1, fu (sg_x g) (sg_q g) x, fu (sg_y g) (sg_q g) y, fu (sg_m g) (sg_q g) k.toInt.toNat), g.2), nI (sg_q g + 1))) else (g, -2)
def ta_sc (g : sg) (k : Nat) (m : Int32) : ta := (ta_n g.2 + 1, ta_sa g.2, ta_sb g.2, fu (ta_wt g.2) (ta_n g.2) k, fu (ta_mo g.2) (ta_n g.2) m.toInt.toNat, fu (ta_dn g.2) (ta_n g.2) (sg_q g), fu (ta_dx g.2) (ta_n g.2) (sg_x g), fu (ta_dy g.2) (ta_n g.2) (sg_y g), fu (ta_dm g.2) (ta_n g.2) (sg_m g), ta_kd g.2, ta_ru g.2)
def op_scan (g : sg) (w m : Int32) : sg × Int32 := match ix w (sg_W g) with
  | some k => if 0 ≤ m ∧ m ≤ 999 then (if ta_n g.2 = 12 then (g, -4) else (((sg_W g, 0, sg_x g, sg_y g, sg_m g), ta_sc g k m), nI (ta_n g.2))) else (g, -2)
  | none => (g, -1)
def fd {α : Type} (f : Nat → α) (k : Nat) : Nat → α := fun j => if j < k then f j else f (j + 1)
theorem fd_lt {α : Type} (f : Nat → α) {k j : Nat} (h : j < k) : fd f k j = f j := if_pos h
theorem fd_ge {α : Type} (f : Nat → α) {k j : Nat} (h : ¬ j < k) : fd f k j = f (j + 1) := if_neg h
def ta_dr (τ : ta) (k : Nat) : ta := (ta_n τ - 1, ta_sa τ, ta_sb τ, fd (ta_wt τ) k, fd (ta_mo τ) k, fd (ta_dn τ) k, fd (ta_dx τ) k, fd (ta_dy τ) k, fd (ta_dm τ) k, ta_kd τ, ta_ru τ)
def op_drop (g : sg) (s : Int32) : sg × Int32 := match ix s (ta_n g.2) with
  | some k => ((g.1, ta_dr g.2 k), nI (ta_n g.2 - 1))
  | none => (g, -1)
def ta_ki (τ : ta) (m k : Nat) : ta := (ta_n τ, ta_sa τ, ta_sb τ, ta_wt τ, ta_mo τ, ta_dn τ, ta_dx τ, ta_dy τ, ta_dm τ, fu (ta_kd τ) m k, ta_ru τ)
def op_kind (g : sg) (m k : Int32) : sg × Int32 := if 1 ≤ m ∧ m ≤ 9 then (if 0 ≤ k ∧ k ≤ 2 then ((g.1, ta_ki g.2 m.toInt.toNat k.toInt.toNat), nI (ta_kd g.2 m.toInt.toNat)) else (g, -2)) else (g, -1)
def ta_rl (τ : ta) (m k : Nat) : ta := (ta_n τ, ta_sa τ, ta_sb τ, ta_wt τ, ta_mo τ, ta_dn τ, ta_dx τ, ta_dy τ, ta_dm τ, ta_kd τ, fu (ta_ru τ) m k)
def op_rule (g : sg) (m v : Int32) : sg × Int32 := match ix m 6 with
  | some k => if am_stT 59 k ≤ v ∧ v ≤ am_stT 60 k then ((g.1, ta_rl g.2 k v.toInt.toNat), nI (ta_ru g.2 k)) else (g, -2)
  | none => (g, -1)
def op_right (g : sg) (w u : Int32) : sg × Int32 := match ix w (sg_W g) with
  | some a => (match ix u (sg_W g) with
    | some b => if a = b then (g, -2) else if (prs g.2 a b).1 = 0 then (g, -3) else ((g.1, ta_sh g.2 b (rg_a g.2 a b) (rg_b g.2 a b)), rg_n g.2 a b)
    | none => (g, -1))
  | none => (g, -1)
theorem ix_inv {w : Int32} {n k : Nat} (h : ix w n = some k) : k < n ∧ w.toInt = k := by
  unfold ix at h
  split at h
  · cases h; omega
  · cases h
theorem iz_in {x : Int32} {a b : Int32} {z : Int} (ha : a.toInt = -z) (hb : b.toInt = z) (h : a ≤ x ∧ x ≤ b) : ta_in x z := by
  have h1 := Int32.le_iff_toInt_le.mp h.1
  have h2 := Int32.le_iff_toInt_le.mp h.2
  exact ⟨by omega, by omega⟩
theorem iz_rg {x : Int32} {a b : Int32} {m n : Nat} (ha : a.toInt = m) (hb : b.toInt = n) (h : a ≤ x ∧ x ≤ b) : m ≤ x.toInt.toNat ∧ x.toInt.toNat ≤ n ∧ (n < 2 ^ 31 → x = nI x.toInt.toNat) := by
  have h1 := Int32.le_iff_toInt_le.mp h.1
  have h2 := Int32.le_iff_toInt_le.mp h.2
  exact ⟨by omega, by omega, fun hn => iz_nI (by omega) (by omega)⟩
theorem iP_watcher {g : sg} (h : iP g) : iP (op_watcher g).1 := by
  unfold op_watcher
  split
  · exact h
  · rename_i c
    obtain ⟨h1, h2, h3, h4, h5⟩ := h
    exact ⟨h1, by show sg_W g + 1 ≤ 3; omega, h3, h4, fun w hw => h5 w (by have : sg_W g + 1 ≤ w := hw; omega)⟩
theorem ta_sh_ok {τ : ta} (h : ta_ok τ) {k : Nat} {a b : Int32} (ha : ta_in a 50) (hb : ta_in b 50) : ta_ok (ta_sh τ k a b) := by
  obtain ⟨h1, h2, h3⟩ := h
  refine ⟨h1, fun w hw => ?_, h3⟩
  show ta_in (fu (ta_sa τ) k a w) 50 ∧ ta_in (fu (ta_sb τ) k b w) 50
  by_cases c : w = k
  · rw [c, fu_at, fu_at]; exact ⟨ha, hb⟩
  · rw [fu_ne _ _ c, fu_ne _ _ c]; exact h2 w hw
theorem iP_sh {g : sg} (h : iP g) {k : Nat} (hk : k < sg_W g) {a b : Int32} (ha : ta_in a 50) (hb : ta_in b 50) : iP (g.1, ta_sh g.2 k a b) := by
  obtain ⟨h1, h2, h3, h4, h5⟩ := h
  refine ⟨ta_sh_ok h1 ha hb, h2, h3, h4, fun w hw hw3 => ?_⟩
  have hw : sg_W g ≤ w := hw
  show fu (ta_sa g.2) k a w = 0 ∧ fu (ta_sb g.2) k b w = 0
  rw [fu_ne _ _ (by omega), fu_ne _ _ (by omega)]; exact h5 w hw hw3
theorem iP_shift {g : sg} (h : iP g) (w a b : Int32) : iP (op_shift g w a b).1 := by
  unfold op_shift
  split
  · rename_i k hk
    split
    · rename_i c
      exact iP_sh h (ix_inv hk).1 (iz_in (by decide) (by decide) c.1) (iz_in (by decide) (by decide) c.2)
    · exact h
  · exact h
theorem iP_dot {g : sg} (h : iP g) (x y k : Int32) : iP (op_dot g x y k).1 := by
  unfold op_dot
  split
  · rename_i c
    split
    · exact h
    · rename_i c4
      obtain ⟨h1, h2, h3, h4, h5⟩ := h
      refine ⟨h1, h2, by show sg_q g + 1 ≤ 4; omega, fun e he => ?_, h5⟩
      have he : e < sg_q g + 1 := he
      show ta_in (fu (sg_x g) (sg_q g) x e) 1000 ∧ ta_in (fu (sg_y g) (sg_q g) y e) 1000 ∧ fu (sg_m g) (sg_q g) k.toInt.toNat e ≤ 9
      by_cases ce : e = sg_q g
      · rw [ce, fu_at, fu_at, fu_at]
        exact ⟨iz_in (by decide) (by decide) c.1, iz_in (by decide) (by decide) c.2.1, (iz_rg (m := 0) (n := 9) (by decide) (by decide) c.2.2).2.1⟩
      · rw [fu_ne _ _ ce, fu_ne _ _ ce, fu_ne _ _ ce]; exact h4 e (by omega)
  · exact h
theorem iP_scan {g : sg} (h : iP g) (w m : Int32) : iP (op_scan g w m).1 := by
  unfold op_scan
  split
  · rename_i k hk
    split
    · rename_i c
      split
      · exact h
      · rename_i c12
        obtain ⟨h1, h2, h3, h4, h5⟩ := h
        refine ⟨?_, h2, by show 0 ≤ 4; omega, fun e he => absurd he (Nat.not_lt_zero e), h5⟩
        obtain ⟨t1, t2, t3, t4⟩ := h1
        refine ⟨by show ta_n g.2 + 1 ≤ 12; omega, t2, fun s hs => ?_, t4⟩
        have hs : s < ta_n g.2 + 1 := hs
        show fu (ta_wt g.2) (ta_n g.2) k s < 3 ∧ fu (ta_mo g.2) (ta_n g.2) m.toInt.toNat s ≤ 999 ∧ fu (ta_dn g.2) (ta_n g.2) (sg_q g) s ≤ 4 ∧ ∀ d, d < fu (ta_dn g.2) (ta_n g.2) (sg_q g) s → ta_in (fu (ta_dx g.2) (ta_n g.2) (sg_x g) s d) 1000 ∧ ta_in (fu (ta_dy g.2) (ta_n g.2) (sg_y g) s d) 1000 ∧ fu (ta_dm g.2) (ta_n g.2) (sg_m g) s d ≤ 9
        by_cases cs : s = ta_n g.2
        · rw [cs, fu_at, fu_at, fu_at, fu_at, fu_at, fu_at]
          exact ⟨by have := (ix_inv hk).1; omega, (iz_rg (m := 0) (n := 999) (by decide) (by decide) c).2.1, h3, h4⟩
        · rw [fu_ne _ _ cs, fu_ne _ _ cs, fu_ne _ _ cs, fu_ne _ _ cs, fu_ne _ _ cs, fu_ne _ _ cs]
          exact t3 s (by omega)
    · exact h
  · exact h
theorem iP_drop {g : sg} (h : iP g) (s : Int32) : iP (op_drop g s).1 := by
  unfold op_drop
  split
  · rename_i k hk
    have hk := (ix_inv hk).1
    obtain ⟨h1, h2, h3, h4, h5⟩ := h
    refine ⟨?_, h2, h3, h4, h5⟩
    obtain ⟨t1, t2, t3, t4⟩ := h1
    refine ⟨by show ta_n g.2 - 1 ≤ 12; omega, t2, fun s hs => ?_, t4⟩
    have hs : s < ta_n g.2 - 1 := hs
    show fd (ta_wt g.2) k s < 3 ∧ fd (ta_mo g.2) k s ≤ 999 ∧ fd (ta_dn g.2) k s ≤ 4 ∧ ∀ d, d < fd (ta_dn g.2) k s → ta_in (fd (ta_dx g.2) k s d) 1000 ∧ ta_in (fd (ta_dy g.2) k s d) 1000 ∧ fd (ta_dm g.2) k s d ≤ 9
    by_cases c : s < k
    · rw [fd_lt _ c, fd_lt _ c, fd_lt _ c, fd_lt _ c, fd_lt _ c, fd_lt _ c]; exact t3 s (by omega)
    · rw [fd_ge _ c, fd_ge _ c, fd_ge _ c, fd_ge _ c, fd_ge _ c, fd_ge _ c]; exact t3 (s + 1) (by omega)
  · exact h
theorem iP_kind {g : sg} (h : iP g) (m k : Int32) : iP (op_kind g m k).1 := by
  unfold op_kind
  split
  · split
    · rename_i c2
      obtain ⟨⟨t1, t2, t3, t4, t5⟩, h2⟩ := h
      refine ⟨⟨t1, t2, t3, fun j hj => ?_, t5⟩, h2⟩
      show fu (ta_kd g.2) m.toInt.toNat k.toInt.toNat j ≤ 2
      by_cases c : j = m.toInt.toNat
      · rw [c, fu_at]; exact (iz_rg (m := 0) (n := 2) (by decide) (by decide) c2).2.1
      · rw [fu_ne _ _ c]; exact t4 j hj
    · exact h
  · exact h
theorem iP_rule {g : sg} (h : iP g) (m v : Int32) : iP (op_rule g m v).1 := by
  unfold op_rule
  split
  · rename_i k hk
    have hk := (ix_inv hk).1
    split
    · rename_i c
      obtain ⟨⟨t1, t2, t3, t4, t5, t6, t7, t8, t9, t10⟩, h2⟩ := h
      have key : ∀ j, fu (ta_ru g.2) k v.toInt.toNat j = if j = k then v.toInt.toNat else ta_ru g.2 j := fun _ => rfl
      refine ⟨⟨t1, t2, t3, t4, ?_⟩, h2⟩
      show fu (ta_ru g.2) k v.toInt.toNat 0 ≤ 500 ∧ fu (ta_ru g.2) k v.toInt.toNat 1 ≤ 100000 ∧ fu (ta_ru g.2) k v.toInt.toNat 2 ≤ 100000 ∧ fu (ta_ru g.2) k v.toInt.toNat 3 ≤ 100000 ∧ (1 ≤ fu (ta_ru g.2) k v.toInt.toNat 4 ∧ fu (ta_ru g.2) k v.toInt.toNat 4 ≤ 9) ∧ (1 ≤ fu (ta_ru g.2) k v.toInt.toNat 5 ∧ fu (ta_ru g.2) k v.toInt.toNat 5 ≤ 4)
      rw [key, key, key, key, key, key]
      match k, hk, c with
      | 0, _, c => have z := iz_rg (m := 0) (n := 500) (by decide) (by decide) c; exact ⟨z.2.1, t6, t7, t8, t9, t10⟩
      | 1, _, c => have z := iz_rg (m := 0) (n := 100000) (by decide) (by decide) c; exact ⟨t5, z.2.1, t7, t8, t9, t10⟩
      | 2, _, c => have z := iz_rg (m := 0) (n := 100000) (by decide) (by decide) c; exact ⟨t5, t6, z.2.1, t8, t9, t10⟩
      | 3, _, c => have z := iz_rg (m := 0) (n := 100000) (by decide) (by decide) c; exact ⟨t5, t6, t7, z.2.1, t9, t10⟩
      | 4, _, c => have z := iz_rg (m := 1) (n := 9) (by decide) (by decide) c; exact ⟨t5, t6, t7, t8, ⟨z.1, z.2.1⟩, t10⟩
      | 5, _, c => have z := iz_rg (m := 1) (n := 4) (by decide) (by decide) c; exact ⟨t5, t6, t7, t8, t9, ⟨z.1, z.2.1⟩⟩
      | k + 6, hk, _ => omega
    · exact h
  · exact h
theorem k50_in (x : Int32) : ta_in (k50 x) 50 := by
  have e1 : (50 : Int32).toInt = 50 := by decide
  have e2 : (-50 : Int32).toInt = -50 := by decide
  unfold k50
  split
  · unfold ta_in; rw [e2]; omega
  · rename_i c
    split
    · unfold ta_in; rw [e1]; omega
    · rename_i c2
      rw [Int32.lt_iff_toInt_lt, e2] at c
      rw [Int32.lt_iff_toInt_lt, e1] at c2
      exact ⟨by omega, by omega⟩
theorem iP_right {g : sg} (h : iP g) (w u : Int32) : iP (op_right g w u).1 := by
  unfold op_right
  split
  · rename_i a ha
    split
    · rename_i b hb
      split
      · exact h
      · split
        · exact h
        · exact iP_sh h (ix_inv hb).1 (k50_in _) (k50_in _)
    · exact h
  · exact h
end
section
/-! the calls of the class, from what holds to what holds -/
theorem sC_tr {M M' M'' : am_M} (h : sC M M') (h' : sC M' M'') : sC M M'' := fun f i k hf => (h' f i k hf).trans (h f i k hf)
theorem sM_tr {M M' M'' : am_M} (h : sM M M') (h' : sM M' M'') : sM M M'' := ⟨h'.1.trans h.1, fun f i k hf => (h'.2 f i k hf).trans (h.2 f i k hf)⟩
theorem dc_watcher {X : am_X} (hX : am_Cl X) {d : Nat} {g : sg} (hP : iP g) : dC X d 0 [some (.inr (.inl (0, 0)))] g (op_watcher g).1 (op_watcher g).2 := by
  intro M hI Q h
  obtain ⟨c1, c2, c3, c4⟩ := id hI
  have hW := hP.2.1
  refine cw_watcher hX d M Q (fun c => ?_) (fun c => ?_)
  · rw [c2] at c ⊢
    have c : sg_W g < 3 := (nI_ltI (b := 3) (by omega) (by omega)).mp c
    have e : op_watcher g = (((sg_W g + 1, g.1.2), g.2), nI (sg_W g)) := if_neg (by omega)
    rw [e] at h
    rw [nI_1, nI_pred]
    refine h _ (sC_si (sC_rf M) (by omega)) ⟨cC_of c1 (L := [1]) (am_fr_si (am_fr_rf _ _) (by simp)) (by simp) (rc_T_of c1.1 (by simp [am_si_at]) (fun _ => rfl) (fun f hf i k => ?_)) (fun q => ⟨?_, rfl⟩), ?_, ?_, fun e he => ?_⟩
    · rw [am_si_at, if_neg (fun z => by simp at hf; omega)]
    · rw [am_si_at, if_neg (by omega)] at q; exact q
    · rw [am_si_at, if_pos ⟨rfl, rfl, rfl⟩]; rfl
    · show (am_si M 1 0 1 (nI (sg_W g + 1))).1 18 (M.2.1 4 (ta_n g.2)) 2 = _
      rw [am_si_at, if_neg (by omega)]; exact c3
    · show (am_si M 1 0 1 (nI (sg_W g + 1))).1 19 (M.2.1 4 (ta_n g.2)) e = _ ∧ (am_si M 1 0 1 (nI (sg_W g + 1))).1 20 (M.2.1 4 (ta_n g.2)) e = _ ∧ (am_si M 1 0 1 (nI (sg_W g + 1))).1 21 (M.2.1 4 (ta_n g.2)) e = _
      rw [am_si_at, if_neg (by omega), am_si_at, if_neg (by omega), am_si_at, if_neg (by omega)]; exact c4 e he
  · rw [c2] at c
    have c : sg_W g = 3 := by
      rcases Nat.lt_or_ge (sg_W g) 3 with q | q
      · exact absurd (nI_lt q (by omega)) c
      · omega
    have e : op_watcher g = (g, -4) := if_pos c
    rw [e] at h
    exact h M (sC_rf M) hI
theorem iC_sh {M : am_M} {g : sg} {k : Nat} {a b : Int32} (hI : iC M g) (hk : k < 3) : sC M (am_si (am_si (am_si M 2 0 k a) 3 0 k b) 1 0 0 1) ∧ iC (am_si (am_si (am_si M 2 0 k a) 3 0 k b) 1 0 0 1) (g.1, ta_sh g.2 k a b) := by
  obtain ⟨c1, c2, c3, c4⟩ := hI
  obtain ⟨t1, t2, t3, t4, t5, t6, t7⟩ := id c1.1
  have hf : ∀ f i j, f ≠ 1 → f ≠ 2 → f ≠ 3 → (am_si (am_si (am_si M 2 0 k a) 3 0 k b) 1 0 0 1).1 f i j = M.1 f i j := fun f i j h1 h2 h3 => by
    rw [am_si_at, if_neg (fun z => h1 z.1), am_si_at, if_neg (fun z => h3 z.1), am_si_at, if_neg (fun z => h2 z.1)]
  have h1 : ∀ j, j ≠ 0 → (am_si (am_si (am_si M 2 0 k a) 3 0 k b) 1 0 0 1).1 1 0 j = M.1 1 0 j := fun j hj => by
    rw [am_si_at, if_neg (fun z => hj z.2.2), am_si_at, if_neg (by omega), am_si_at, if_neg (by omega)]
  refine ⟨sC_si (sC_si (sC_si (sC_rf M) (by omega)) (by omega)) (by omega), cC_of c1 (L := [1, 2, 3]) (am_fr_si (am_fr_si (am_fr_si (am_fr_rf _ _) (by simp)) (by simp)) (by simp)) (by simp) ⟨?_, fun w hw => ?_, t3, t4, fun s hs => ?_, fun j hj => ?_, fun j hj => ?_⟩ (fun q => ?_), ?_, ?_, fun e he => ?_⟩
  · rw [h1 2 (by omega)]; exact t1
  · show _ = fu (ta_sa g.2) k a w ∧ _ = fu (ta_sb g.2) k b w
    simp only [am_si_at]
    by_cases c : w = k
    · rw [c, fu_at, fu_at]; simp
    · rw [fu_ne _ _ c, fu_ne _ _ c]; simp [c]; exact t2 w hw
  · show (am_si (am_si (am_si M 2 0 k a) 3 0 k b) 1 0 0 1).1 18 (M.2.1 4 s) 0 = _ ∧ (am_si (am_si (am_si M 2 0 k a) 3 0 k b) 1 0 0 1).1 18 (M.2.1 4 s) 1 = _ ∧ (am_si (am_si (am_si M 2 0 k a) 3 0 k b) 1 0 0 1).1 18 (M.2.1 4 s) 2 = _ ∧ ∀ e, e < ta_dn g.2 s → (am_si (am_si (am_si M 2 0 k a) 3 0 k b) 1 0 0 1).1 19 (M.2.1 4 s) e = _ ∧ (am_si (am_si (am_si M 2 0 k a) 3 0 k b) 1 0 0 1).1 20 (M.2.1 4 s) e = _ ∧ (am_si (am_si (am_si M 2 0 k a) 3 0 k b) 1 0 0 1).1 21 (M.2.1 4 s) e = _
    rw [hf 18 _ _ (by omega) (by omega) (by omega), hf 18 _ _ (by omega) (by omega) (by omega), hf 18 _ _ (by omega) (by omega) (by omega)]
    refine ⟨(t5 s hs).1, (t5 s hs).2.1, (t5 s hs).2.2.1, fun e he => ?_⟩
    rw [hf 19 _ _ (by omega) (by omega) (by omega), hf 20 _ _ (by omega) (by omega) (by omega), hf 21 _ _ (by omega) (by omega) (by omega)]
    exact (t5 s hs).2.2.2 e he
  · rw [hf 7 _ _ (by omega) (by omega) (by omega)]; exact t6 j hj
  · rw [hf 6 _ _ (by omega) (by omega) (by omega)]; exact t7 j hj
  · rw [am_si_at, if_pos ⟨rfl, rfl, rfl⟩] at q; exact absurd q (by decide)
  · rw [h1 1 (by omega)]; exact c2
  · show (am_si (am_si (am_si M 2 0 k a) 3 0 k b) 1 0 0 1).1 18 (M.2.1 4 (ta_n g.2)) 2 = _
    rw [hf 18 _ _ (by omega) (by omega) (by omega)]; exact c3
  · show (am_si (am_si (am_si M 2 0 k a) 3 0 k b) 1 0 0 1).1 19 (M.2.1 4 (ta_n g.2)) e = _ ∧ (am_si (am_si (am_si M 2 0 k a) 3 0 k b) 1 0 0 1).1 20 (M.2.1 4 (ta_n g.2)) e = _ ∧ (am_si (am_si (am_si M 2 0 k a) 3 0 k b) 1 0 0 1).1 21 (M.2.1 4 (ta_n g.2)) e = _
    rw [hf 19 _ _ (by omega) (by omega) (by omega), hf 20 _ _ (by omega) (by omega) (by omega), hf 21 _ _ (by omega) (by omega) (by omega)]
    exact c4 e he
theorem dc_shift {X : am_X} (hX : am_Cl X) {d : Nat} (hd : 1 ≤ d) {g : sg} (hP : iP g) (w a b : Int32) : dC X d 1 [some (.inr (.inl (0, 0))), some (.inl (w)), some (.inl (a)), some (.inl (b))] g (op_shift g w a b).1 (op_shift g w a b).2 := by
  intro M hI Q h
  obtain ⟨c1, c2, c3, c4⟩ := id hI
  have hW := hP.2.1
  refine cw_shift hX d M hd w a b Q (fun z => ?_) (fun w1 w2 z => ?_) (fun w1 w2 za zb => ?_)
  · rw [c2] at z
    have e : op_shift g w a b = (g, -1) := by unfold op_shift; rw [ix_n (by omega) z]
    rw [e] at h; exact h M (sC_rf M) hI
  · rw [c2] at w2
    obtain ⟨k, k1, k2, k3⟩ := ix_y (by omega) w1 w2
    have e : op_shift g w a b = (g, -2) := by unfold op_shift; rw [k3]; exact if_neg z
    rw [e] at h; exact h M (sC_rf M) hI
  · rw [c2] at w2
    obtain ⟨k, k1, k2, k3⟩ := ix_y (by omega) w1 w2
    have e : op_shift g w a b = ((g.1, ta_sh g.2 k a b), 0) := by unfold op_shift; rw [k3]; exact if_pos ⟨za, zb⟩
    rw [e] at h
    have z := iC_sh (a := a) (b := b) hI (by omega : k < 3)
    exact ⟨k, by omega, k2, h _ z.1 z.2⟩
theorem dc_dot {X : am_X} (hX : am_Cl X) {d : Nat} (hd : 1 ≤ d) {g : sg} (hP : iP g) (x y k : Int32) : dC X d 2 [some (.inr (.inl (0, 0))), some (.inl (x)), some (.inl (y)), some (.inl (k)), none] g (op_dot g x y k).1 (op_dot g x y k).2 := by
  intro M hI Q h
  obtain ⟨c1, c2, c3, c4⟩ := id hI
  have hn := hP.1.1
  have hq := hP.2.2.1
  refine cw_dot hX d M hd (ta_n g.2) (sg_q g) (by omega) hq c1.1.1 c3 x y k Q (fun z => ?_) (fun zx zy zk q4 => ?_) (fun q4 z => ?_)
  · have e : op_dot g x y k = (g, -2) := if_neg z
    rw [e] at h; exact h M (sC_rf M) hI
  · have e : op_dot g x y k = (((sg_W g, sg_q g + 1, fu (sg_x g) (sg_q g) x, fu (sg_y g) (sg_q g) y, fu (sg_m g) (sg_q g) k.toInt.toNat), g.2), nI (sg_q g + 1)) := by
      unfold op_dot; rw [if_pos ⟨zx, zy, zk⟩, if_neg (by omega)]
    rw [e] at h
    obtain ⟨t1, t2, t3, t4, t5, t6, t7⟩ := id c1.1
    have ek := (iz_rg (m := 0) (n := 9) (by decide) (by decide) zk).2.2 (by omega)
    refine h _ (sC_si (sC_si (sC_si (sC_si (sC_rf M) (by omega)) (by omega)) (by omega)) (by omega)) ⟨cC_of c1 (L := [18, 19, 20, 21]) (am_fr_si (am_fr_si (am_fr_si (am_fr_si (am_fr_rf _ _) (by simp)) (by simp)) (by simp)) (by simp)) (by simp) ⟨?_, fun w hw => ?_, t3, t4, fun s hs => ?_, fun j hj => ?_, fun j hj => ?_⟩ (fun q => ⟨?_, rfl⟩), ?_, ?_, fun e he => ?_⟩
    · simp only [am_si_at]; simp; exact t1
    · simp only [am_si_at]; simp; exact t2 w hw
    · have hs : s < ta_n g.2 := hs
      have ne : ¬ M.2.1 4 s = M.2.1 4 (ta_n g.2) := fun z => by have := t4 s (ta_n g.2) (by omega) (by omega) z; omega
      simp only [am_si_at, am_si_2]; simp [ne]; exact t5 s hs
    · simp only [am_si_at]; simp; exact t6 j hj
    · simp only [am_si_at]; simp; exact t7 j hj
    · simp only [am_si_at] at q; simp at q; exact q
    · simp only [am_si_at]; simp; exact c2
    · simp only [am_si_at, am_si_2]; simp; rfl
    · have he : e < sg_q g + 1 := he
      simp only [am_si_at, am_si_2]
      show _ = fu (sg_x g) (sg_q g) x e ∧ _ = fu (sg_y g) (sg_q g) y e ∧ _ = nI (fu (sg_m g) (sg_q g) k.toInt.toNat e)
      by_cases c : e = sg_q g
      · rw [c, fu_at, fu_at, fu_at, ← ek]; simp
      · rw [fu_ne _ _ c, fu_ne _ _ c, fu_ne _ _ c]; simp [c]; exact c4 e (by omega)
  · have e : op_dot g x y k = (g, -4) := by unfold op_dot; rw [if_pos z, if_pos q4]
    rw [e] at h; exact h M (sC_rf M) hI
theorem dc_scan {X : am_X} (hX : am_Cl X) {d : Nat} (hd : 1 ≤ d) {g : sg} (hP : iP g) (w m : Int32) : dC X d 3 [some (.inr (.inl (0, 0))), some (.inl (w)), some (.inl (m))] g (op_scan g w m).1 (op_scan g w m).2 := by
  intro M hI Q h
  obtain ⟨c1, c2, c3, c4⟩ := id hI
  have hn := hP.1.1
  have hW := hP.2.1
  have hq := hP.2.2.1
  refine cw_scan hX d M hd (ta_n g.2) hn c1.1.1 w m Q (fun z => ?_) (fun w1 w2 z => ?_) (fun w1 w2 z z12 => ?_) (fun w1 w2 z z12 => ?_)
  · rw [c2] at z
    have e : op_scan g w m = (g, -1) := by unfold op_scan; rw [ix_n (by omega) z]
    rw [e] at h; exact h M (sC_rf M) hI
  · rw [c2] at w2
    obtain ⟨k, k1, k2, k3⟩ := ix_y (by omega) w1 w2
    have e : op_scan g w m = (g, -2) := by unfold op_scan; rw [k3]; exact if_neg z
    rw [e] at h; exact h M (sC_rf M) hI
  · rw [c2] at w2
    obtain ⟨k, k1, k2, k3⟩ := ix_y (by omega) w1 w2
    have e : op_scan g w m = (g, -4) := by unfold op_scan; rw [k3]; exact (if_pos z).trans (if_pos z12)
    rw [e] at h; exact h M (sC_rf M) hI
  · rw [c2] at w2
    obtain ⟨k, k1, k2, k3⟩ := ix_y (by omega) w1 w2
    have e : op_scan g w m = (((sg_W g, 0, sg_x g, sg_y g, sg_m g), ta_sc g k m), nI (ta_n g.2)) := by unfold op_scan; rw [k3]; exact (if_pos z).trans (if_neg (by omega))
    rw [e] at h
    obtain ⟨t1, t2, t3, t4, t5, t6, t7⟩ := id c1.1
    have em := (iz_rg (m := 0) (n := 999) (by decide) (by decide) z).2.2 (by omega)
    have n1 : ¬ M.2.1 4 (ta_n g.2) = M.2.1 4 (ta_n g.2 + 1) := fun z => by have := t4 (ta_n g.2) (ta_n g.2 + 1) (by omega) (by omega) z; omega
    refine h _ (sC_si (sC_si (sC_si (sC_si (sC_si (sC_rf M) (by omega)) (by omega)) (by omega)) (by omega)) (by omega)) ⟨cC_of c1 (L := [1, 18]) (am_fr_si (am_fr_si (am_fr_si (am_fr_si (am_fr_si (am_fr_rf _ _) (by simp)) (by simp)) (by simp)) (by simp)) (by simp)) (by simp) ⟨?_, fun w hw => ?_, t3, t4, fun s hs => ?_, fun j hj => ?_, fun j hj => ?_⟩ (fun q => ?_), ?_, ?_, fun e he => absurd he (Nat.not_lt_zero e)⟩
    · simp only [am_si_at, cw_closeM]; simp; rfl
    · simp only [am_si_at, cw_closeM]; simp; exact t2 w hw
    · have hs : s < ta_n g.2 + 1 := hs
      have ne2 : ¬ M.2.1 4 s = M.2.1 4 (ta_n g.2 + 1) := fun z => by have := t4 s (ta_n g.2 + 1) (by omega) (by omega) z; omega
      show _ = nI (fu (ta_wt g.2) (ta_n g.2) k s) ∧ _ = nI (fu (ta_mo g.2) (ta_n g.2) m.toInt.toNat s) ∧ _ = nI (fu (ta_dn g.2) (ta_n g.2) (sg_q g) s) ∧ ∀ e, e < fu (ta_dn g.2) (ta_n g.2) (sg_q g) s → _ = fu (ta_dx g.2) (ta_n g.2) (sg_x g) s e ∧ _ = fu (ta_dy g.2) (ta_n g.2) (sg_y g) s e ∧ _ = nI (fu (ta_dm g.2) (ta_n g.2) (sg_m g) s e)
      simp only [am_si_at, am_si_2, cw_closeM]
      by_cases c : s = ta_n g.2
      · rw [c, fu_at, fu_at, fu_at, fu_at, fu_at, fu_at]
        simp [n1]
        exact ⟨k2, em, c3, c4⟩
      · have ne : ¬ M.2.1 4 s = M.2.1 4 (ta_n g.2) := fun z => by have := t4 s (ta_n g.2) (by omega) (by omega) z; omega
        rw [fu_ne _ _ c, fu_ne _ _ c, fu_ne _ _ c, fu_ne _ _ c, fu_ne _ _ c, fu_ne _ _ c]
        simp [ne, ne2]
        exact t5 s (by omega)
    · simp only [am_si_at, cw_closeM]; simp; exact t6 j hj
    · simp only [am_si_at, cw_closeM]; simp; exact t7 j hj
    · rw [am_si_at, if_pos ⟨rfl, rfl, rfl⟩] at q; exact absurd q (by decide)
    · simp only [am_si_at, cw_closeM]; simp; exact c2
    · show (am_si (cw_closeM M (ta_n g.2) w m) 1 0 0 1).1 18 (M.2.1 4 (ta_n g.2 + 1)) 2 = nI 0
      simp only [am_si_at, cw_closeM]; simp; rfl
theorem dc_drop {X : am_X} (hX : am_Cl X) {d : Nat} (hd : 2 ≤ d) {g : sg} (hP : iP g) (s : Int32) : dC X d 4 [some (.inr (.inl (0, 0))), some (.inl (s))] g (op_drop g s).1 (op_drop g s).2 := by
  intro M hI Q h
  obtain ⟨c1, c2, c3, c4⟩ := id hI
  have hn := hP.1.1
  refine cw_drop hX d M hd (ta_n g.2) hn c1.1.1 s Q (fun z => ?_) (fun k hk ek => ?_)
  · rw [c1.1.1] at z
    have e : op_drop g s = (g, -1) := by unfold op_drop; rw [ix_n (by omega) z]
    rw [e] at h; exact h M (sC_rf M) hI
  · have e : op_drop g s = ((g.1, ta_dr g.2 k), nI (ta_n g.2 - 1)) := by unfold op_drop; rw [ek, ix_of hk (by omega)]
    rw [e] at h
    obtain ⟨⟨t1, t2, t3, t4, t5, t6, t7⟩, ⟨s1, s2, s3⟩, h8, hD⟩ := id c1
    generalize hM' : am_si (am_si (am_sv (M.1, cw_rot M.2.1 k (ta_n g.2), M.2.2) 4 (ta_n g.2) (M.2.1 4 k)) 1 0 2 (nI (ta_n g.2 - 1))) 1 0 0 1 = M'
    have v4 : ∀ j, M'.2.1 4 j = M.2.1 4 (if j = ta_n g.2 then k else if k ≤ j ∧ j < ta_n g.2 then j + 1 else j) := by
      intro j
      rw [← hM']
      show (if 4 = 4 ∧ j = ta_n g.2 then M.2.1 4 k else if 4 = 4 ∧ k ≤ j ∧ j < ta_n g.2 then M.2.1 4 (j + 1) else M.2.1 4 j) = _
      simp only [true_and]
      split
      · rfl
      · split <;> rfl
    have vn : ∀ f j, f ≠ 4 → M'.2.1 f j = M.2.1 f j := by
      intro f j hf
      rw [← hM']
      show (if f = 4 ∧ j = ta_n g.2 then M.2.1 4 k else if f = 4 ∧ k ≤ j ∧ j < ta_n g.2 then M.2.1 4 (j + 1) else M.2.1 f j) = _
      rw [if_neg (fun z => hf z.1), if_neg (fun z => hf z.1)]
    have fc : ∀ f i j, f ≠ 1 → M'.1 f i j = M.1 f i j := by
      intro f i j hf
      rw [← hM', am_si_at, if_neg (fun z => hf z.1), am_si_at, if_neg (fun z => hf z.1)]; rfl
    have f0 : M'.1 1 0 0 = 1 := by rw [← hM', am_si_at, if_pos ⟨rfl, rfl, rfl⟩]
    have f2 : M'.1 1 0 2 = nI (ta_n g.2 - 1) := by rw [← hM', am_si_at, if_neg (by omega), am_si_at, if_pos ⟨rfl, rfl, rfl⟩]
    have f1 : M'.1 1 0 1 = M.1 1 0 1 := by rw [← hM', am_si_at, if_neg (by omega), am_si_at, if_neg (by omega)]; rfl
    refine h M' (fun f i j hf => fc f i j (by omega)) ⟨⟨⟨f2, fun w hw => ?_, fun i hi => ?_, fun i j hi hj z => ?_, fun s hs => ?_, fun j hj => ?_, fun j hj => ?_⟩, ⟨fun j hj => ?_, fun i hi => ?_, fun i j hi hj z => ?_⟩, ?_, fun z => ?_⟩, ?_, ?_, fun e he => ?_⟩
    · rw [fc 2 _ _ (by omega), fc 3 _ _ (by omega)]; exact t2 w hw
    · rw [v4]
      refine t3 _ ?_
      split
      · omega
      · split <;> omega
    · rw [v4, v4] at z
      have z := t4 _ _ (by split; omega; split <;> omega) (by split; omega; split <;> omega) z
      split at z <;> split at z <;> (try split at z) <;> (try split at z) <;> omega
    · have hs : s < ta_n g.2 - 1 := hs
      show _ = nI (fd (ta_wt g.2) k s) ∧ _ = nI (fd (ta_mo g.2) k s) ∧ _ = nI (fd (ta_dn g.2) k s) ∧ ∀ e, e < fd (ta_dn g.2) k s → _ = fd (ta_dx g.2) k s e ∧ _ = fd (ta_dy g.2) k s e ∧ _ = nI (fd (ta_dm g.2) k s e)
      rw [v4, if_neg (by omega), fc 18 _ _ (by omega), fc 18 _ _ (by omega), fc 18 _ _ (by omega)]
      by_cases c : s < k
      · rw [if_neg (by omega), fd_lt _ c, fd_lt _ c, fd_lt _ c, fd_lt _ c, fd_lt _ c, fd_lt _ c]
        refine ⟨(t5 s (by omega)).1, (t5 s (by omega)).2.1, (t5 s (by omega)).2.2.1, fun e he => ?_⟩
        rw [fc 19 _ _ (by omega), fc 20 _ _ (by omega), fc 21 _ _ (by omega)]
        exact (t5 s (by omega)).2.2.2 e he
      · rw [if_pos ⟨by omega, by omega⟩, fd_ge _ c, fd_ge _ c, fd_ge _ c, fd_ge _ c, fd_ge _ c, fd_ge _ c]
        refine ⟨(t5 (s + 1) (by omega)).1, (t5 (s + 1) (by omega)).2.1, (t5 (s + 1) (by omega)).2.2.1, fun e he => ?_⟩
        rw [fc 19 _ _ (by omega), fc 20 _ _ (by omega), fc 21 _ _ (by omega)]
        exact (t5 (s + 1) (by omega)).2.2.2 e he
    · rw [fc 7 _ _ (by omega)]; exact t6 j hj
    · rw [fc 6 _ _ (by omega)]; exact t7 j hj
    · rw [fc 16 _ _ (by omega)]; exact s1 j hj
    · rw [vn 12 _ (by omega)]; exact s2 i hi
    · rw [vn 12 _ (by omega), vn 12 _ (by omega)] at z; exact s3 i j hi hj z
    · rw [vn 8 _ (by omega), vn 8 _ (by omega)]; exact h8
    · rw [f0] at z; exact absurd z (by decide)
    · rw [f1]; exact c2
    · show M'.1 18 (M'.2.1 4 (ta_n g.2 - 1)) 2 = _
      rw [v4, if_neg (by omega), if_pos ⟨by omega, by omega⟩, fc 18 _ _ (by omega), show ta_n g.2 - 1 + 1 = ta_n g.2 by omega]; exact c3
    · show M'.1 19 (M'.2.1 4 (ta_n g.2 - 1)) e = _ ∧ M'.1 20 (M'.2.1 4 (ta_n g.2 - 1)) e = _ ∧ M'.1 21 (M'.2.1 4 (ta_n g.2 - 1)) e = _
      rw [v4, if_neg (by omega), if_pos ⟨by omega, by omega⟩, fc 19 _ _ (by omega), fc 20 _ _ (by omega), fc 21 _ _ (by omega), show ta_n g.2 - 1 + 1 = ta_n g.2 by omega]; exact c4 e he
theorem dc_kind {X : am_X} (hX : am_Cl X) {d : Nat} (hd : 1 ≤ d) {g : sg} (m k : Int32) : dC X d 5 [some (.inr (.inl (0, 0))), some (.inl (m)), some (.inl (k)), none] g (op_kind g m k).1 (op_kind g m k).2 := by
  intro M hI Q h
  obtain ⟨c1, c2, c3, c4⟩ := id hI
  refine cw_kind hX d M hd m k Q (fun z => ?_) (fun z z2 => ?_) (fun z z2 => ?_)
  · have e : op_kind g m k = (g, -1) := if_neg z
    rw [e] at h; exact h M (sC_rf M) hI
  · have e : op_kind g m k = (g, -2) := (if_pos z).trans (if_neg z2)
    rw [e] at h; exact h M (sC_rf M) hI
  · have e : op_kind g m k = ((g.1, ta_ki g.2 m.toInt.toNat k.toInt.toNat), nI (ta_kd g.2 m.toInt.toNat)) := (if_pos z).trans (if_pos z2)
    rw [e] at h
    obtain ⟨t1, t2, t3, t4, t5, t6, t7⟩ := id c1.1
    have rm := iz_rg (m := 1) (n := 9) (by decide) (by decide) z
    have rk := iz_rg (m := 0) (n := 2) (by decide) (by decide) z2
    refine ⟨m.toInt.toNat, by omega, rm.2.2 (by omega), ?_⟩
    rw [t6 _ (by omega : m.toInt.toNat < 10)]
    generalize m.toInt.toNat = n at h rm ⊢
    refine h _ (sC_si (sC_si (sC_rf M) (by omega)) (by omega)) ⟨cC_of c1 (L := [1, 7]) (am_fr_si (am_fr_si (am_fr_rf _ _) (by simp)) (by simp)) (by simp) ⟨?_, fun w hw => ?_, t3, t4, fun s hs => ?_, fun j hj => ?_, fun j hj => ?_⟩ (fun q => ?_), ?_, ?_, fun e he => ?_⟩
    · simp only [am_si_at]; simp; exact t1
    · simp only [am_si_at]; simp; exact t2 w hw
    · simp only [am_si_at, am_si_2]; simp; exact t5 s hs
    · show _ = nI (fu (ta_kd g.2) n k.toInt.toNat j)
      simp only [am_si_at]
      by_cases c : j = n
      · rw [c, fu_at, ← rk.2.2 (by omega)]; simp
      · rw [fu_ne _ _ c]; simp [c]; exact t6 j hj
    · simp only [am_si_at]; simp; exact t7 j hj
    · rw [am_si_at, if_pos ⟨rfl, rfl, rfl⟩] at q; exact absurd q (by decide)
    · simp only [am_si_at]; simp; exact c2
    · simp only [am_si_at, am_si_2]; simp; exact c3
    · simp only [am_si_at, am_si_2]; simp; exact c4 e he
theorem dc_rule {X : am_X} (hX : am_Cl X) {d : Nat} (hd : 1 ≤ d) {g : sg} (m v : Int32) : dC X d 6 [some (.inr (.inl (0, 0))), some (.inl (m)), some (.inl (v)), none] g (op_rule g m v).1 (op_rule g m v).2 := by
  intro M hI Q h
  obtain ⟨c1, c2, c3, c4⟩ := id hI
  refine cw_rule hX d M hd m v Q (fun z => ?_) (fun n hn en z => ?_) (fun n hn en z => ?_)
  · have e : op_rule g m v = (g, -1) := by
      unfold op_rule
      rw [ix_n (by omega) (fun q => z ⟨q.1, ?_⟩)]
      have := Int32.lt_iff_toInt_lt.mp q.2
      rw [Int32.le_iff_toInt_le, show (5 : Int32).toInt = 5 by decide]
      rw [nI_toInt (by omega)] at this; omega
    rw [e] at h; exact h M (sC_rf M) hI
  · have e : op_rule g m v = (g, -2) := by unfold op_rule; rw [en, ix_of hn (by omega)]; exact if_neg z
    rw [e] at h; exact h M (sC_rf M) hI
  · have e : op_rule g m v = ((g.1, ta_rl g.2 n v.toInt.toNat), nI (ta_ru g.2 n)) := by unfold op_rule; rw [en, ix_of hn (by omega)]; exact if_pos z
    rw [e] at h
    obtain ⟨t1, t2, t3, t4, t5, t6, t7⟩ := id c1.1
    have ev : v = nI v.toInt.toNat := by
      match n, hn, z with
      | 0, _, z => exact (iz_rg (m := 0) (n := 500) (by decide) (by decide) z).2.2 (by omega)
      | 1, _, z => exact (iz_rg (m := 0) (n := 100000) (by decide) (by decide) z).2.2 (by omega)
      | 2, _, z => exact (iz_rg (m := 0) (n := 100000) (by decide) (by decide) z).2.2 (by omega)
      | 3, _, z => exact (iz_rg (m := 0) (n := 100000) (by decide) (by decide) z).2.2 (by omega)
      | 4, _, z => exact (iz_rg (m := 1) (n := 9) (by decide) (by decide) z).2.2 (by omega)
      | 5, _, z => exact (iz_rg (m := 1) (n := 4) (by decide) (by decide) z).2.2 (by omega)
      | k + 6, hk, _ => omega
    rw [t7 n hn]
    refine h _ (sC_si (sC_si (sC_rf M) (by omega)) (by omega)) ⟨cC_of c1 (L := [1, 6]) (am_fr_si (am_fr_si (am_fr_rf _ _) (by simp)) (by simp)) (by simp) ⟨?_, fun w hw => ?_, t3, t4, fun s hs => ?_, fun j hj => ?_, fun j hj => ?_⟩ (fun q => ?_), ?_, ?_, fun e he => ?_⟩
    · simp only [am_si_at]; simp; exact t1
    · simp only [am_si_at]; simp; exact t2 w hw
    · simp only [am_si_at, am_si_2]; simp; exact t5 s hs
    · simp only [am_si_at]; simp; exact t6 j hj
    · show _ = nI (fu (ta_ru g.2) n v.toInt.toNat j)
      simp only [am_si_at]
      by_cases c : j = n
      · rw [c, fu_at, ← ev]; simp
      · rw [fu_ne _ _ c]; simp [c]; exact t7 j hj
    · rw [am_si_at, if_pos ⟨rfl, rfl, rfl⟩] at q; exact absurd q (by decide)
    · simp only [am_si_at]; simp; exact c2
    · simp only [am_si_at, am_si_2]; simp; exact c3
    · simp only [am_si_at, am_si_2]; simp; exact c4 e he
theorem dc_right {X : am_X} (hX : am_Cl X) {d : Nat} (hd : 2 ≤ d) {g : sg} (hP : iP g) (w u : Int32) : dC X d 23 [some (.inr (.inl (0, 0))), some (.inl (w)), some (.inl (u)), none, none, none] g (op_right g w u).1 (op_right g w u).2 := by
  intro M hI Q h
  have hW := hP.2.1
  refine cw_right hX d M hd g.2 hP.1 hI.1.1 (sg_W g) hW hI.2.1 w u Q (fun z => ?_) (fun a b ea eb ha hb ab => ?_) (fun a b ea eb ha hb ab z M' fr => ?_) (fun a b ea eb ha hb ab z M' fr => ?_)
  · have e : op_right g w u = (g, -1) := by
      unfold op_right
      rcases z with z | z
      · rw [z]
      · rw [z]; split <;> rfl
    rw [e] at h; exact h M (sC_rf M) hI
  · have e : op_right g w u = (g, -2) := by unfold op_right; rw [ea]; dsimp only; rw [eb]; exact if_pos ab
    rw [e] at h; exact h M (sC_rf M) hI
  · have e : op_right g w u = (g, -3) := by unfold op_right; rw [ea]; dsimp only; rw [eb]; exact (if_neg ab).trans (if_pos z)
    rw [e] at h; exact h M' (sC_17 fr) (iC_17 hI fr)
  · have e : op_right g w u = ((g.1, ta_sh g.2 b (rg_a g.2 a b) (rg_b g.2 a b)), rg_n g.2 a b) := by unfold op_right; rw [ea]; dsimp only; rw [eb]; exact (if_neg ab).trans (if_neg z)
    rw [e] at h
    have k := iC_sh (a := rg_a g.2 a b) (b := rg_b g.2 a b) (iC_17 hI fr) (by omega : b < 3)
    exact h _ (sC_tr (sC_17 fr) k.1) k.2
end
section
/-! the calls of the reference, from what holds to what holds -/
theorem mC_of {M M' : am_M} {L : List Nat} {τ τ' : ta} (h : mC M τ) (fr : am_fr L M M') (hL : ∀ f, 42 ≤ f → f ≤ 54 → f ∉ L) (hT : rm_T M' τ') (e1 : M'.1 28 0 18 = M.1 28 0 18) (e2 : M'.1 28 0 19 = M.1 28 0 19) (h0 : M'.1 28 0 16 = 0 → M.1 28 0 16 = 0 ∧ τ' = τ) : mC M' τ' := by
  obtain ⟨-, hE, hD⟩ := h
  refine ⟨hT, fun k hk => ?_, fun q => ?_⟩
  · rw [fr.2 54 _ _ (hL 54 (by omega) (by omega))]; exact hE k hk
  · obtain ⟨q, e⟩ := h0 q
    rw [e]
    exact rm_D_fr (hD q) fr hL e1 e2
theorem dm_watcher {X : am_X} (hX : am_Cl X) {d : Nat} {g : sg} (hP : iP g) : dM X d 86 [some (.inr (.inl (28, 0)))] g (op_watcher g).1 (op_watcher g).2 := by
  intro M hI Q h
  obtain ⟨c1, c2, c3, c4⟩ := id hI
  have hW := hP.2.1
  refine cm_watcher hX d M (sg_W g) hW c2 Q (fun c => ?_) (fun c => ?_)
  · have e : op_watcher g = (g, -4) := if_pos c
    rw [e] at h
    exact h M (sM_rf M) hI
  · have e : op_watcher g = (((sg_W g + 1, g.1.2), g.2), nI (sg_W g)) := if_neg (by omega)
    rw [e] at h
    obtain ⟨t1, t2, t3, t4, t5⟩ := id c1.1
    refine h _ (sM_si (sM_si (sM_si (sM_rf M) (by omega) (by omega)) (by omega) (by omega)) (by omega) (by omega)) ⟨mC_of c1 (L := [28, 29, 30]) (am_fr_si (am_fr_si (am_fr_si (am_fr_rf _ _) (by simp)) (by simp)) (by simp)) (fun f f1 f2 => by simp; omega) ⟨?_, fun w hw => ?_, fun s hs => ?_, fun j hj => ?_, fun j hj => ?_⟩ ?_ ?_ (fun q => ⟨?_, rfl⟩), ?_, ?_, fun e he => ?_⟩
    · simp only [am_si_at]; simp; exact t1
    · simp only [am_si_at]
      by_cases cw : w = sg_W g
      · have z := hP.2.2.2.2 w (by omega) hw
        rw [cw] at z ⊢
        simp
        exact ⟨z.1.symm, z.2.symm⟩
      · simp [cw]; exact t2 w hw
    · simp only [am_si_at]; simp; exact t3 s hs
    · simp only [am_si_at]; simp; exact t4 j hj
    · simp only [am_si_at]; simp; exact t5 j hj
    · simp only [am_si_at]; simp
    · simp only [am_si_at]; simp
    · simp only [am_si_at] at q; simp at q; exact q
    · simp only [am_si_at]; simp; rfl
    · simp only [am_si_at]; simp; exact c3
    · simp only [am_si_at]; simp; exact c4 e he
theorem iM_sh {M : am_M} {g : sg} {k : Nat} {a b : Int32} (hI : iM M g) (hk : k < 3) : sM M (am_si (am_si (am_si M 29 0 k a) 30 0 k b) 28 0 16 1) ∧ iM (am_si (am_si (am_si M 29 0 k a) 30 0 k b) 28 0 16 1) (g.1, ta_sh g.2 k a b) := by
  obtain ⟨c1, c2, c3, c4⟩ := hI
  obtain ⟨t1, t2, t3, t4, t5⟩ := id c1.1
  refine ⟨sM_si (sM_si (sM_si (sM_rf M) (by omega) (by omega)) (by omega) (by omega)) (by omega) (by omega), mC_of c1 (L := [28, 29, 30]) (am_fr_si (am_fr_si (am_fr_si (am_fr_rf _ _) (by simp)) (by simp)) (by simp)) (fun f f1 f2 => by simp; omega) ⟨?_, fun w hw => ?_, fun s hs => ?_, fun j hj => ?_, fun j hj => ?_⟩ ?_ ?_ (fun q => ?_), ?_, ?_, fun e he => ?_⟩
  · simp only [am_si_at]; simp; exact t1
  · show _ = fu (ta_sa g.2) k a w ∧ _ = fu (ta_sb g.2) k b w
    simp only [am_si_at]
    by_cases c : w = k
    · rw [c, fu_at, fu_at]; simp
    · rw [fu_ne _ _ c, fu_ne _ _ c]; simp [c]; exact t2 w hw
  · simp only [am_si_at]; simp; exact t3 s hs
  · simp only [am_si_at]; simp; exact t4 j hj
  · simp only [am_si_at]; simp; exact t5 j hj
  · simp only [am_si_at]; simp
  · simp only [am_si_at]; simp
  · rw [am_si_at, if_pos ⟨rfl, rfl, rfl⟩] at q; exact absurd q (by decide)
  · simp only [am_si_at]; simp; exact c2
  · simp only [am_si_at]; simp; exact c3
  · simp only [am_si_at]; simp; exact c4 e he
theorem dm_shift {X : am_X} (hX : am_Cl X) {d : Nat} (hd : 2 ≤ d) {g : sg} (hP : iP g) (w a b : Int32) : dM X d 87 [some (.inr (.inl (28, 0))), some (.inl (w)), some (.inl (a)), some (.inl (b))] g (op_shift g w a b).1 (op_shift g w a b).2 := by
  intro M hI Q h
  obtain ⟨c1, c2, c3, c4⟩ := id hI
  have hW := hP.2.1
  refine cm_shift hX d M hd w a b Q (fun z => ?_) (fun w1 w2 z => ?_) (fun w1 w2 za zb => ?_)
  · rw [c2, ix_lt (by omega)] at z
    have e : op_shift g w a b = (g, -1) := by unfold op_shift; rw [ix_n (by omega) z]
    rw [e] at h; exact h M (sM_rf M) hI
  · rw [c2, ix_lt (by omega)] at w2
    obtain ⟨k, k1, k2, k3⟩ := ix_y (by omega) w1 w2
    have e : op_shift g w a b = (g, -2) := by unfold op_shift; rw [k3]; exact if_neg z
    rw [e] at h; exact h M (sM_rf M) hI
  · rw [c2, ix_lt (by omega)] at w2
    obtain ⟨k, k1, k2, k3⟩ := ix_y (by omega) w1 w2
    have e : op_shift g w a b = ((g.1, ta_sh g.2 k a b), 0) := by unfold op_shift; rw [k3]; exact if_pos ⟨za, zb⟩
    rw [e] at h
    have z := iM_sh (a := a) (b := b) hI (by omega : k < 3)
    exact ⟨k, by omega, k2, h _ z.1 z.2⟩
theorem dm_dot {X : am_X} (hX : am_Cl X) {d : Nat} (hd : 1 ≤ d) {g : sg} (hP : iP g) (x y k : Int32) : dM X d 88 [some (.inr (.inl (28, 0))), some (.inl (x)), some (.inl (y)), some (.inl (k))] g (op_dot g x y k).1 (op_dot g x y k).2 := by
  intro M hI Q h
  obtain ⟨c1, c2, c3, c4⟩ := id hI
  have hq := hP.2.2.1
  refine cm_dot hX d M hd (sg_q g) hq c3 x y k Q (fun z => ?_) (fun zx zy zk q4 => ?_) (fun q4 z => ?_)
  · have e : op_dot g x y k = (g, -2) := if_neg z
    rw [e] at h; exact h M (sM_rf M) hI
  · have e : op_dot g x y k = (((sg_W g, sg_q g + 1, fu (sg_x g) (sg_q g) x, fu (sg_y g) (sg_q g) y, fu (sg_m g) (sg_q g) k.toInt.toNat), g.2), nI (sg_q g + 1)) := by
      unfold op_dot; rw [if_pos ⟨zx, zy, zk⟩, if_neg (by omega)]
    rw [e] at h
    obtain ⟨t1, t2, t3, t4, t5⟩ := id c1.1
    have ek := (iz_rg (m := 0) (n := 9) (by decide) (by decide) zk).2.2 (by omega)
    refine h _ (sM_si (sM_si (sM_si (sM_si (sM_rf M) (by omega) (by omega)) (by omega) (by omega)) (by omega) (by omega)) (by omega) (by omega)) ⟨mC_of c1 (L := [28, 37, 38, 39]) (am_fr_si (am_fr_si (am_fr_si (am_fr_si (am_fr_rf _ _) (by simp)) (by simp)) (by simp)) (by simp)) (fun f f1 f2 => by simp; omega) ⟨?_, fun w hw => ?_, fun s hs => ?_, fun j hj => ?_, fun j hj => ?_⟩ ?_ ?_ (fun q => ⟨?_, rfl⟩), ?_, ?_, fun e he => ?_⟩
    · simp only [am_si_at]; simp; exact t1
    · simp only [am_si_at]; simp; exact t2 w hw
    · simp only [am_si_at]; simp; exact t3 s hs
    · simp only [am_si_at]; simp; exact t4 j hj
    · simp only [am_si_at]; simp; exact t5 j hj
    · simp only [am_si_at]; simp
    · simp only [am_si_at]; simp
    · simp only [am_si_at] at q; simp at q; exact q
    · simp only [am_si_at]; simp; exact c2
    · simp only [am_si_at]; simp; rfl
    · have he : e < sg_q g + 1 := he
      simp only [am_si_at]
      show _ = fu (sg_x g) (sg_q g) x e ∧ _ = fu (sg_y g) (sg_q g) y e ∧ _ = nI (fu (sg_m g) (sg_q g) k.toInt.toNat e)
      by_cases c : e = sg_q g
      · rw [c, fu_at, fu_at, fu_at, ← ek]; simp
      · rw [fu_ne _ _ c, fu_ne _ _ c, fu_ne _ _ c]; simp [c]; exact c4 e (by omega)
  · have e : op_dot g x y k = (g, -4) := by unfold op_dot; rw [if_pos z, if_pos q4]
    rw [e] at h; exact h M (sM_rf M) hI
theorem dm_scan {X : am_X} (hX : am_Cl X) {d : Nat} (hd : 2 ≤ d) {g : sg} (hP : iP g) (w m : Int32) : dM X d 89 [some (.inr (.inl (28, 0))), some (.inl (w)), some (.inl (m)), none] g (op_scan g w m).1 (op_scan g w m).2 := by
  intro M hI Q h
  obtain ⟨c1, c2, c3, c4⟩ := id hI
  have hn := hP.1.1
  have hW := hP.2.1
  have hq := hP.2.2.1
  refine cm_scan hX d M hd (ta_n g.2) (sg_q g) hn hq c1.1.1 c3 w m Q (fun z => ?_) (fun w1 w2 z => ?_) (fun w1 w2 z z12 => ?_) (fun w1 w2 z z12 M' hS => ?_)
  · rw [c2, ix_lt (by omega)] at z
    have e : op_scan g w m = (g, -1) := by unfold op_scan; rw [ix_n (by omega) z]
    rw [e] at h; exact h M (sM_rf M) hI
  · rw [c2, ix_lt (by omega)] at w2
    obtain ⟨k, k1, k2, k3⟩ := ix_y (by omega) w1 w2
    have e : op_scan g w m = (g, -2) := by unfold op_scan; rw [k3]; exact if_neg z
    rw [e] at h; exact h M (sM_rf M) hI
  · rw [c2, ix_lt (by omega)] at w2
    obtain ⟨k, k1, k2, k3⟩ := ix_y (by omega) w1 w2
    have e : op_scan g w m = (g, -4) := by unfold op_scan; rw [k3]; exact (if_pos z).trans (if_pos z12)
    rw [e] at h; exact h M (sM_rf M) hI
  · rw [c2, ix_lt (by omega)] at w2
    obtain ⟨k, k1, k2, k3⟩ := ix_y (by omega) w1 w2
    have e : op_scan g w m = (((sg_W g, 0, sg_x g, sg_y g, sg_m g), ta_sc g k m), nI (ta_n g.2)) := by unfold op_scan; rw [k3]; exact (if_pos z).trans (if_neg (by omega))
    rw [e] at h
    obtain ⟨t1, t2, t3, t4, t5⟩ := id c1.1
    obtain ⟨fr, h28, g1, g2, g3, g4, g5, g6⟩ := hS
    have em := (iz_rg (m := 0) (n := 999) (by decide) (by decide) z).2.2 (by omega)
    refine h M' ⟨fr.1, fun f i j hf => fr.2 f i j (by simp; omega)⟩ ⟨mC_of c1 fr (fun f f1 f2 => by simp; omega) ⟨?_, fun w hw => ?_, fun s hs => ?_, fun j hj => ?_, fun j hj => ?_⟩ ?_ ?_ (fun q => ?_), ?_, ?_, fun e he => absurd he (Nat.not_lt_zero e)⟩
    · rw [h28]; rfl
    · rw [fr.2 29 _ _ (by simp), fr.2 30 _ _ (by simp)]; exact t2 w hw
    · have hs : s < ta_n g.2 + 1 := hs
      show _ = nI (fu (ta_wt g.2) (ta_n g.2) k s) ∧ _ = nI (fu (ta_mo g.2) (ta_n g.2) m.toInt.toNat s) ∧ _ = nI (fu (ta_dn g.2) (ta_n g.2) (sg_q g) s) ∧ ∀ e, e < fu (ta_dn g.2) (ta_n g.2) (sg_q g) s → _ = fu (ta_dx g.2) (ta_n g.2) (sg_x g) s e ∧ _ = fu (ta_dy g.2) (ta_n g.2) (sg_y g) s e ∧ _ = nI (fu (ta_dm g.2) (ta_n g.2) (sg_m g) s e)
      by_cases c : s = ta_n g.2
      · rw [c, fu_at, fu_at, fu_at, fu_at, fu_at, fu_at, g1, if_pos rfl, g2, if_pos rfl, g3, if_pos rfl]
        refine ⟨k2, em, rfl, fun e he => ?_⟩
        rw [g4, if_pos ⟨by omega, by omega⟩, g5, if_pos ⟨by omega, by omega⟩, g6, if_pos ⟨by omega, by omega⟩, show 4 * ta_n g.2 + e - 4 * ta_n g.2 = e by omega]
        exact c4 e he
      · have h4 := (hP.1.2.2.1 s (by omega)).2.2.1
        rw [fu_ne _ _ c, fu_ne _ _ c, fu_ne _ _ c, fu_ne _ _ c, fu_ne _ _ c, fu_ne _ _ c, g1, if_neg c, g2, if_neg c, g3, if_neg c]
        refine ⟨(t3 s (by omega)).1, (t3 s (by omega)).2.1, (t3 s (by omega)).2.2.1, fun e he => ?_⟩
        rw [g4, if_neg (by omega), g5, if_neg (by omega), g6, if_neg (by omega)]
        exact (t3 s (by omega)).2.2.2 e he
    · rw [fr.2 40 _ _ (by simp)]; exact t4 j hj
    · rw [fr.2 41 _ _ (by simp)]; exact t5 j hj
    · rw [h28]; rfl
    · rw [h28]; rfl
    · rw [h28] at q; exact absurd (show (1 : Int32) = 0 from q) (by decide)
    · rw [h28]; exact c2
    · rw [h28]; rfl
theorem dm_drop {X : am_X} (hX : am_Cl X) {d : Nat} (hd : 2 ≤ d) {g : sg} (hP : iP g) (s : Int32) : dM X d 90 [some (.inr (.inl (28, 0))), some (.inl (s)), none, none] g (op_drop g s).1 (op_drop g s).2 := by
  intro M hI Q h
  obtain ⟨c1, c2, c3, c4⟩ := id hI
  have hn := hP.1.1
  refine cm_drop hX d M hd (ta_n g.2) hn c1.1.1 s Q (fun z => ?_) (fun k hk ek M2 hD => ?_)
  · rw [c1.1.1, ix_lt (by omega)] at z
    have e : op_drop g s = (g, -1) := by unfold op_drop; rw [ix_n (by omega) z]
    rw [e] at h; exact h M (sM_rf M) hI
  · have e : op_drop g s = ((g.1, ta_dr g.2 k), nI (ta_n g.2 - 1)) := by unfold op_drop; rw [ek, ix_of hk (by omega)]
    rw [e] at h
    obtain ⟨t1, t2, t3, t4, t5⟩ := id c1.1
    obtain ⟨fr, g1, g2⟩ := hD
    generalize hM' : am_si M2 28 0 16 1 = M'
    have fr' : am_fr [28, 31, 32, 33, 34, 35, 36] M M' := by
      rw [← hM']
      exact am_fr_si (am_fr_tr (am_fr_si (am_fr_rf _ M) (by simp)) (am_fr_mono fr (by simp))) (by simp)
    have h28 : ∀ j, M'.1 28 0 j = if j = 16 then 1 else if j = 1 then nI (ta_n g.2 - 1) else M.1 28 0 j := by
      intro j
      rw [← hM', am_si_at]
      by_cases c : j = 16
      · rw [if_pos ⟨rfl, rfl, c⟩, if_pos c]
      · rw [if_neg (fun z => c z.2.2), if_neg c, fr.2 28 0 j (by simp), am_si_at]
        by_cases c1 : j = 1
        · rw [if_pos ⟨rfl, rfl, c1⟩, if_pos c1]
        · rw [if_neg (fun z => c1 z.2.2), if_neg c1]
    have ga : ∀ f, f = 31 ∨ f = 32 ∨ f = 33 → ∀ j, M'.1 f 0 j = if k ≤ j ∧ j < ta_n g.2 - 1 then M.1 f 0 (j + 1) else M.1 f 0 j := by
      intro f hf j
      have e : ∀ j, (am_si M 28 0 1 (nI (ta_n g.2 - 1))).1 f 0 j = M.1 f 0 j := fun j => by rw [am_si_at, if_neg (by omega)]
      rw [← hM', am_si_at, if_neg (by omega), g1 f hf j, e, e]
    have gb : ∀ f, f = 34 ∨ f = 35 ∨ f = 36 → ∀ j, M'.1 f 0 j = if 4 * k ≤ j ∧ j < 4 * (ta_n g.2 - 1) then M.1 f 0 (j + 4) else M.1 f 0 j := by
      intro f hf j
      have e : ∀ j, (am_si M 28 0 1 (nI (ta_n g.2 - 1))).1 f 0 j = M.1 f 0 j := fun j => by rw [am_si_at, if_neg (by omega)]
      rw [← hM', am_si_at, if_neg (by omega), g2 f hf j, e, e]
    refine h M' ⟨fr'.1, fun f i j hf => fr'.2 f i j (by simp; omega)⟩ ⟨mC_of c1 fr' (fun f f1 f2 => by simp; omega) ⟨?_, fun w hw => ?_, fun s hs => ?_, fun j hj => ?_, fun j hj => ?_⟩ ?_ ?_ (fun q => ?_), ?_, ?_, fun e he => ?_⟩
    · rw [h28]; rfl
    · rw [fr'.2 29 _ _ (by simp), fr'.2 30 _ _ (by simp)]; exact t2 w hw
    · have hs : s < ta_n g.2 - 1 := hs
      show _ = nI (fd (ta_wt g.2) k s) ∧ _ = nI (fd (ta_mo g.2) k s) ∧ _ = nI (fd (ta_dn g.2) k s) ∧ ∀ e, e < fd (ta_dn g.2) k s → _ = fd (ta_dx g.2) k s e ∧ _ = fd (ta_dy g.2) k s e ∧ _ = nI (fd (ta_dm g.2) k s e)
      rw [ga 31 (by omega), ga 32 (by omega), ga 33 (by omega)]
      by_cases c : s < k
      · have h4 := (hP.1.2.2.1 s (by omega)).2.2.1
        rw [if_neg (by omega), if_neg (by omega), if_neg (by omega), fd_lt _ c, fd_lt _ c, fd_lt _ c, fd_lt _ c, fd_lt _ c, fd_lt _ c]
        refine ⟨(t3 s (by omega)).1, (t3 s (by omega)).2.1, (t3 s (by omega)).2.2.1, fun e he => ?_⟩
        rw [gb 34 (by omega), if_neg (by omega), gb 35 (by omega), if_neg (by omega), gb 36 (by omega), if_neg (by omega)]
        exact (t3 s (by omega)).2.2.2 e he
      · have h4 := (hP.1.2.2.1 (s + 1) (by omega)).2.2.1
        rw [if_pos ⟨by omega, hs⟩, if_pos ⟨by omega, hs⟩, if_pos ⟨by omega, hs⟩, fd_ge _ c, fd_ge _ c, fd_ge _ c, fd_ge _ c, fd_ge _ c, fd_ge _ c]
        refine ⟨(t3 (s + 1) (by omega)).1, (t3 (s + 1) (by omega)).2.1, (t3 (s + 1) (by omega)).2.2.1, fun e he => ?_⟩
        rw [gb 34 (by omega), if_pos ⟨by omega, by omega⟩, gb 35 (by omega), if_pos ⟨by omega, by omega⟩, gb 36 (by omega), if_pos ⟨by omega, by omega⟩, show 4 * s + e + 4 = 4 * (s + 1) + e by omega]
        exact (t3 (s + 1) (by omega)).2.2.2 e he
    · rw [fr'.2 40 _ _ (by simp)]; exact t4 j hj
    · rw [fr'.2 41 _ _ (by simp)]; exact t5 j hj
    · rw [h28]; rfl
    · rw [h28]; rfl
    · rw [h28] at q; exact absurd (show (1 : Int32) = 0 from q) (by decide)
    · rw [h28]; exact c2
    · rw [h28]; exact c3
    · rw [fr'.2 37 _ _ (by simp), fr'.2 38 _ _ (by simp), fr'.2 39 _ _ (by simp)]; exact c4 e he
theorem dm_kind {X : am_X} (hX : am_Cl X) {d : Nat} (hd : 1 ≤ d) {g : sg} (m k : Int32) : dM X d 91 [some (.inr (.inl (28, 0))), some (.inl (m)), some (.inl (k)), none] g (op_kind g m k).1 (op_kind g m k).2 := by
  intro M hI Q h
  obtain ⟨c1, c2, c3, c4⟩ := id hI
  refine cm_kind hX d M hd m k Q (fun z => ?_) (fun z z2 => ?_) (fun z z2 => ?_)
  · have e : op_kind g m k = (g, -1) := if_neg z
    rw [e] at h; exact h M (sM_rf M) hI
  · have e : op_kind g m k = (g, -2) := (if_pos z).trans (if_neg z2)
    rw [e] at h; exact h M (sM_rf M) hI
  · have e : op_kind g m k = ((g.1, ta_ki g.2 m.toInt.toNat k.toInt.toNat), nI (ta_kd g.2 m.toInt.toNat)) := (if_pos z).trans (if_pos z2)
    rw [e] at h
    obtain ⟨t1, t2, t3, t4, t5⟩ := id c1.1
    have rm := iz_rg (m := 1) (n := 9) (by decide) (by decide) z
    have rk := iz_rg (m := 0) (n := 2) (by decide) (by decide) z2
    refine ⟨m.toInt.toNat, by omega, rm.2.2 (by omega), ?_⟩
    rw [t4 _ (by omega : m.toInt.toNat < 10)]
    generalize m.toInt.toNat = n at h rm ⊢
    refine h _ (sM_si (sM_si (sM_rf M) (by omega) (by omega)) (by omega) (by omega)) ⟨mC_of c1 (L := [28, 40]) (am_fr_si (am_fr_si (am_fr_rf _ _) (by simp)) (by simp)) (fun f f1 f2 => by simp; omega) ⟨?_, fun w hw => ?_, fun s hs => ?_, fun j hj => ?_, fun j hj => ?_⟩ ?_ ?_ (fun q => ?_), ?_, ?_, fun e he => ?_⟩
    · simp only [am_si_at]; simp; exact t1
    · simp only [am_si_at]; simp; exact t2 w hw
    · simp only [am_si_at]; simp; exact t3 s hs
    · show _ = nI (fu (ta_kd g.2) n k.toInt.toNat j)
      simp only [am_si_at]
      by_cases c : j = n
      · rw [c, fu_at, ← rk.2.2 (by omega)]; simp
      · rw [fu_ne _ _ c]; simp [c]; exact t4 j hj
    · simp only [am_si_at]; simp; exact t5 j hj
    · simp only [am_si_at]; simp
    · simp only [am_si_at]; simp
    · rw [am_si_at, if_pos ⟨rfl, rfl, rfl⟩] at q; exact absurd q (by decide)
    · simp only [am_si_at]; simp; exact c2
    · simp only [am_si_at]; simp; exact c3
    · simp only [am_si_at]; simp; exact c4 e he
theorem dm_rule {X : am_X} (hX : am_Cl X) {d : Nat} (hd : 1 ≤ d) {g : sg} (m v : Int32) : dM X d 92 [some (.inr (.inl (28, 0))), some (.inl (m)), some (.inl (v)), none] g (op_rule g m v).1 (op_rule g m v).2 := by
  intro M hI Q h
  obtain ⟨c1, c2, c3, c4⟩ := id hI
  refine cm_rule hX d M hd m v Q (fun z => ?_) (fun n hn en z => ?_) (fun n hn en z => ?_)
  · have e : op_rule g m v = (g, -1) := by
      unfold op_rule
      rw [ix_n (by omega) (fun q => z ⟨q.1, ?_⟩)]
      have := Int32.lt_iff_toInt_lt.mp q.2
      rw [Int32.le_iff_toInt_le, show (5 : Int32).toInt = 5 by decide]
      rw [nI_toInt (by omega)] at this; omega
    rw [e] at h; exact h M (sM_rf M) hI
  · have e : op_rule g m v = (g, -2) := by unfold op_rule; rw [en, ix_of hn (by omega)]; exact if_neg z
    rw [e] at h; exact h M (sM_rf M) hI
  · have e : op_rule g m v = ((g.1, ta_rl g.2 n v.toInt.toNat), nI (ta_ru g.2 n)) := by unfold op_rule; rw [en, ix_of hn (by omega)]; exact if_pos z
    rw [e] at h
    obtain ⟨t1, t2, t3, t4, t5⟩ := id c1.1
    have ev : v = nI v.toInt.toNat := by
      match n, hn, z with
      | 0, _, z => exact (iz_rg (m := 0) (n := 500) (by decide) (by decide) z).2.2 (by omega)
      | 1, _, z => exact (iz_rg (m := 0) (n := 100000) (by decide) (by decide) z).2.2 (by omega)
      | 2, _, z => exact (iz_rg (m := 0) (n := 100000) (by decide) (by decide) z).2.2 (by omega)
      | 3, _, z => exact (iz_rg (m := 0) (n := 100000) (by decide) (by decide) z).2.2 (by omega)
      | 4, _, z => exact (iz_rg (m := 1) (n := 9) (by decide) (by decide) z).2.2 (by omega)
      | 5, _, z => exact (iz_rg (m := 1) (n := 4) (by decide) (by decide) z).2.2 (by omega)
      | k + 6, hk, _ => omega
    rw [t5 n hn]
    refine h _ (sM_si (sM_si (sM_rf M) (by omega) (by omega)) (by omega) (by omega)) ⟨mC_of c1 (L := [28, 41]) (am_fr_si (am_fr_si (am_fr_rf _ _) (by simp)) (by simp)) (fun f f1 f2 => by simp; omega) ⟨?_, fun w hw => ?_, fun s hs => ?_, fun j hj => ?_, fun j hj => ?_⟩ ?_ ?_ (fun q => ?_), ?_, ?_, fun e he => ?_⟩
    · simp only [am_si_at]; simp; exact t1
    · simp only [am_si_at]; simp; exact t2 w hw
    · simp only [am_si_at]; simp; exact t3 s hs
    · simp only [am_si_at]; simp; exact t4 j hj
    · show _ = nI (fu (ta_ru g.2) n v.toInt.toNat j)
      simp only [am_si_at]
      by_cases c : j = n
      · rw [c, fu_at, ← ev]; simp
      · rw [fu_ne _ _ c]; simp [c]; exact t5 j hj
    · simp only [am_si_at]; simp
    · simp only [am_si_at]; simp
    · rw [am_si_at, if_pos ⟨rfl, rfl, rfl⟩] at q; exact absurd q (by decide)
    · simp only [am_si_at]; simp; exact c2
    · simp only [am_si_at]; simp; exact c3
    · simp only [am_si_at]; simp; exact c4 e he
theorem dm_right {X : am_X} (hX : am_Cl X) {d : Nat} (hd : 2 ≤ d) {g : sg} (hP : iP g) (w u : Int32) : dM X d 132 [some (.inr (.inl (28, 0))), some (.inl (w)), some (.inl (u)), none, none, none, none] g (op_right g w u).1 (op_right g w u).2 := by
  intro M hI Q h
  have hW := hP.2.1
  refine cm_right hX d M hd g.2 hP.1 hI.1.1 (sg_W g) hW hI.2.1 w u Q (fun z => ?_) (fun a b ea eb ha hb ab => ?_) (fun a b ea eb ha hb ab z M' fr => ?_) (fun a b ea eb ha hb ab z M' fr => ?_)
  · have e : op_right g w u = (g, -1) := by
      unfold op_right
      rcases z with z | z
      · rw [z]
      · rw [z]; split <;> rfl
    rw [e] at h; exact h M (sM_rf M) hI
  · have e : op_right g w u = (g, -2) := by unfold op_right; rw [ea]; dsimp only; rw [eb]; exact if_pos ab
    rw [e] at h; exact h M (sM_rf M) hI
  · have e : op_right g w u = (g, -3) := by unfold op_right; rw [ea]; dsimp only; rw [eb]; exact (if_neg ab).trans (if_pos z)
    rw [e] at h; exact h M' (sM_P fr) (iM_P hI fr)
  · have e : op_right g w u = ((g.1, ta_sh g.2 b (rg_a g.2 a b) (rg_b g.2 a b)), rg_n g.2 a b) := by unfold op_right; rw [ea]; dsimp only; rw [eb]; exact (if_neg ab).trans (if_neg z)
    rw [e] at h
    have k := iM_sh (a := rg_a g.2 a b) (b := rg_b g.2 a b) (iM_P hI fr) (by omega : b < 3)
    exact h _ (sM_tr (sM_P fr) k.1) k.2
end
section
/-! the questions from what holds to what holds; the law, case by case; its loop -/
theorem dc_worlds {X : am_X} (hX : am_Cl X) {d : Nat} (hd : 11 ≤ d) {g : sg} (hP : iP g) : dC X d 7 [some (.inr (.inl (0, 0)))] g g (nI (wds g.2).length) := by
  intro M hI Q h
  exact cw_worlds hX d M (by omega) g.2 hP.1 hI.1  Q (fun M' F C => h M' (sC_F F) (iC_F hI F C))
theorem dm_worlds {X : am_X} (hX : am_Cl X) {d : Nat} (hd : 11 ≤ d) {g : sg} (hP : iP g) : dM X d 110 [some (.inr (.inl (28, 0)))] g g (nI (wds g.2).length) := by
  intro M hI Q h
  exact cm_worlds hX d M (by omega) g.2 hP.1 hI.1  Q (fun M' F C => h M' (sM_F F) (iM_F hI F C))
theorem dc_cost {X : am_X} (hX : am_Cl X) {d : Nat} (hd : 11 ≤ d) {g : sg} (hP : iP g) (a1 : Int32) : dC X d 8 [some (.inr (.inl (0, 0))), some (.inl (a1))] g g (q_cost g.2 a1) := by
  intro M hI Q h
  exact cw_cost hX d M (by omega) g.2 hP.1 hI.1 a1 Q (fun M' F C => h M' (sC_F F) (iC_F hI F C))
theorem dm_cost {X : am_X} (hX : am_Cl X) {d : Nat} (hd : 11 ≤ d) {g : sg} (hP : iP g) (a1 : Int32) : dM X d 111 [some (.inr (.inl (28, 0))), some (.inl (a1))] g g (q_cost g.2 a1) := by
  intro M hI Q h
  exact cm_cost hX d M (by omega) g.2 hP.1 hI.1 a1 Q (fun M' F C => h M' (sM_F F) (iM_F hI F C))
theorem dc_gap {X : am_X} (hX : am_Cl X) {d : Nat} (hd : 11 ≤ d) {g : sg} (hP : iP g) (a1 : Int32) : dC X d 9 [some (.inr (.inl (0, 0))), some (.inl (a1))] g g (q_gap g.2 a1) := by
  intro M hI Q h
  exact cw_gap hX d M (by omega) g.2 hP.1 hI.1 a1 Q (fun M' F C => h M' (sC_F F) (iC_F hI F C))
theorem dm_gap {X : am_X} (hX : am_Cl X) {d : Nat} (hd : 11 ≤ d) {g : sg} (hP : iP g) (a1 : Int32) : dM X d 112 [some (.inr (.inl (28, 0))), some (.inl (a1))] g g (q_gap g.2 a1) := by
  intro M hI Q h
  exact cm_gap hX d M (by omega) g.2 hP.1 hI.1 a1 Q (fun M' F C => h M' (sM_F F) (iM_F hI F C))
theorem dc_tracks {X : am_X} (hX : am_Cl X) {d : Nat} (hd : 11 ≤ d) {g : sg} (hP : iP g) (a1 : Int32) : dC X d 10 [some (.inr (.inl (0, 0))), some (.inl (a1))] g g (q_tracks g.2 a1) := by
  intro M hI Q h
  exact cw_tracks hX d M (by omega) g.2 hP.1 hI.1 a1 Q (fun M' F C => h M' (sC_F F) (iC_F hI F C))
theorem dm_tracks {X : am_X} (hX : am_Cl X) {d : Nat} (hd : 11 ≤ d) {g : sg} (hP : iP g) (a1 : Int32) : dM X d 113 [some (.inr (.inl (28, 0))), some (.inl (a1))] g g (q_tracks g.2 a1) := by
  intro M hI Q h
  exact cm_tracks hX d M (by omega) g.2 hP.1 hI.1 a1 Q (fun M' F C => h M' (sM_F F) (iM_F hI F C))
theorem dc_track {X : am_X} (hX : am_Cl X) {d : Nat} (hd : 11 ≤ d) {g : sg} (hP : iP g) (a1 a2 a3 : Int32) : dC X d 11 [some (.inr (.inl (0, 0))), some (.inl (a1)), some (.inl (a2)), some (.inl (a3))] g g (q_track g.2 a1 a2 a3) := by
  intro M hI Q h
  exact cw_track hX d M (by omega) g.2 hP.1 hI.1 a1 a2 a3 Q (fun M' F C => h M' (sC_F F) (iC_F hI F C))
theorem dm_track {X : am_X} (hX : am_Cl X) {d : Nat} (hd : 11 ≤ d) {g : sg} (hP : iP g) (a1 a2 a3 : Int32) : dM X d 114 [some (.inr (.inl (28, 0))), some (.inl (a1)), some (.inl (a2)), some (.inl (a3)), none] g g (q_track g.2 a1 a2 a3) := by
  intro M hI Q h
  exact cm_track hX d M (by omega) g.2 hP.1 hI.1 a1 a2 a3 Q (fun M' F C => h M' (sM_F F) (iM_F hI F C))
theorem dc_account {X : am_X} (hX : am_Cl X) {d : Nat} (hd : 11 ≤ d) {g : sg} (hP : iP g) (a1 a2 a3 : Int32) : dC X d 12 [some (.inr (.inl (0, 0))), some (.inl (a1)), some (.inl (a2)), some (.inl (a3))] g g (q_account g.2 a1 a2 a3) := by
  intro M hI Q h
  exact cw_account hX d M (by omega) g.2 hP.1 hI.1 a1 a2 a3 Q (fun M' F C => h M' (sC_F F) (iC_F hI F C))
theorem dm_account {X : am_X} (hX : am_Cl X) {d : Nat} (hd : 11 ≤ d) {g : sg} (hP : iP g) (a1 a2 a3 : Int32) : dM X d 116 [some (.inr (.inl (28, 0))), some (.inl (a1)), some (.inl (a2)), some (.inl (a3))] g g (q_account g.2 a1 a2 a3) := by
  intro M hI Q h
  exact cm_account hX d M (by omega) g.2 hP.1 hI.1 a1 a2 a3 Q (fun M' F C => h M' (sM_F F) (iM_F hI F C))
theorem dc_foretell {X : am_X} (hX : am_Cl X) {d : Nat} (hd : 11 ≤ d) {g : sg} (hP : iP g) (a1 a2 a3 a4 : Int32) : dC X d 13 [some (.inr (.inl (0, 0))), some (.inl (a1)), some (.inl (a2)), some (.inl (a3)), some (.inl (a4)), none, none] g g (q_foretell g.2 a1 a2 a3 a4) := by
  intro M hI Q h
  exact cw_foretell hX d M (by omega) g.2 hP.1 hI.1 a1 a2 a3 a4 Q (fun M' F C => h M' (sC_F F) (iC_F hI F C))
theorem dm_foretell {X : am_X} (hX : am_Cl X) {d : Nat} (hd : 11 ≤ d) {g : sg} (hP : iP g) (a1 a2 a3 a4 : Int32) : dM X d 117 [some (.inr (.inl (28, 0))), some (.inl (a1)), some (.inl (a2)), some (.inl (a3)), some (.inl (a4))] g g (q_foretell g.2 a1 a2 a3 a4) := by
  intro M hI Q h
  exact cm_foretell hX d M (by omega) g.2 hP.1 hI.1 a1 a2 a3 a4 Q (fun M' F C => h M' (sM_F F) (iM_F hI F C))
theorem dc_ordered {X : am_X} (hX : am_Cl X) {d : Nat} (hd : 11 ≤ d) {g : sg} (hP : iP g) (a1 : Int32) : dC X d 14 [some (.inr (.inl (0, 0))), some (.inl (a1))] g g (q_ordered g.2 a1) := by
  intro M hI Q h
  exact cw_ordered hX d M (by omega) g.2 hP.1 hI.1 a1 Q (fun M' F C => h M' (sC_F F) (iC_F hI F C))
theorem dm_ordered {X : am_X} (hX : am_Cl X) {d : Nat} (hd : 11 ≤ d) {g : sg} (hP : iP g) (a1 : Int32) : dM X d 118 [some (.inr (.inl (28, 0))), some (.inl (a1))] g g (q_ordered g.2 a1) := by
  intro M hI Q h
  exact cm_ordered hX d M (by omega) g.2 hP.1 hI.1 a1 Q (fun M' F C => h M' (sM_F F) (iM_F hI F C))
theorem dc_name {X : am_X} (hX : am_Cl X) {d : Nat} (hd : 11 ≤ d) {g : sg} (hP : iP g) (a1 : Int32) : dC X d 15 [some (.inr (.inl (0, 0))), some (.inl (a1)), none] g g (q_name g.2 a1) := by
  intro M hI Q h
  exact cw_name hX d M (by omega) g.2 hP.1 hI.1 a1 Q (fun M' F C => h M' (sC_F F) (iC_F hI F C))
theorem dm_name {X : am_X} (hX : am_Cl X) {d : Nat} (hd : 11 ≤ d) {g : sg} (hP : iP g) (a1 : Int32) : dM X d 119 [some (.inr (.inl (28, 0))), some (.inl (a1)), none, none, none] g g (q_name g.2 a1) := by
  intro M hI Q h
  exact cm_name hX d M (by omega) g.2 hP.1 hI.1 a1 Q (fun M' F C => h M' (sM_F F) (iM_F hI F C))
theorem dc_sure {X : am_X} (hX : am_Cl X) {d : Nat} (hd : 11 ≤ d) {g : sg} (hP : iP g) (a1 a2 : Int32) : dC X d 16 [some (.inr (.inl (0, 0))), some (.inl (a1)), some (.inl (a2))] g g (q_sure g.2 a1 a2) := by
  intro M hI Q h
  exact cw_sure hX d M (by omega) g.2 hP.1 hI.1 a1 a2 Q (fun M' F C => h M' (sC_F F) (iC_F hI F C))
theorem dm_sure {X : am_X} (hX : am_Cl X) {d : Nat} (hd : 11 ≤ d) {g : sg} (hP : iP g) (a1 a2 : Int32) : dM X d 121 [some (.inr (.inl (28, 0))), some (.inl (a1)), some (.inl (a2))] g g (q_sure g.2 a1 a2) := by
  intro M hI Q h
  exact cm_sure hX d M (by omega) g.2 hP.1 hI.1 a1 a2 Q (fun M' F C => h M' (sM_F F) (iM_F hI F C))
theorem dc_alive {X : am_X} (hX : am_Cl X) {d : Nat} (hd : 11 ≤ d) {g : sg} (hP : iP g) (a1 : Int32) : dC X d 17 [some (.inr (.inl (0, 0))), some (.inl (a1))] g g (q_alive g.2 a1) := by
  intro M hI Q h
  exact cw_alive hX d M (by omega) g.2 hP.1 hI.1 a1 Q (fun M' F C => h M' (sC_F F) (iC_F hI F C))
theorem dm_alive {X : am_X} (hX : am_Cl X) {d : Nat} (hd : 11 ≤ d) {g : sg} (hP : iP g) (a1 : Int32) : dM X d 122 [some (.inr (.inl (28, 0))), some (.inl (a1)), none, none] g g (q_alive g.2 a1) := by
  intro M hI Q h
  exact cm_alive hX d M (by omega) g.2 hP.1 hI.1 a1 Q (fun M' F C => h M' (sM_F F) (iM_F hI F C))
theorem dc_path {X : am_X} (hX : am_Cl X) {d : Nat} (hd : 11 ≤ d) {g : sg} (hP : iP g) (a1 a2 : Int32) : dC X d 18 [some (.inr (.inl (0, 0))), some (.inl (a1)), some (.inl (a2)), none, none, none, none] g g (q_path g.2 a1 a2) := by
  intro M hI Q h
  exact cw_path hX d M (by omega) g.2 hP.1 hI.1 a1 a2 Q (fun M' F C => h M' (sC_F F) (iC_F hI F C))
theorem dm_path {X : am_X} (hX : am_Cl X) {d : Nat} (hd : 11 ≤ d) {g : sg} (hP : iP g) (a1 a2 : Int32) : dM X d 123 [some (.inr (.inl (28, 0))), some (.inl (a1)), some (.inl (a2)), none, none, none] g g (q_path g.2 a1 a2) := by
  intro M hI Q h
  exact cm_path hX d M (by omega) g.2 hP.1 hI.1 a1 a2 Q (fun M' F C => h M' (sM_F F) (iM_F hI F C))
theorem dc_apart {X : am_X} (hX : am_Cl X) {d : Nat} (hd : 11 ≤ d) {g : sg} (hP : iP g) (a1 a2 a3 : Int32) : dC X d 19 [some (.inr (.inl (0, 0))), some (.inl (a1)), some (.inl (a2)), some (.inl (a3))] g g (q_apart g.2 a1 a2 a3) := by
  intro M hI Q h
  exact cw_apart hX d M (by omega) g.2 hP.1 hI.1 a1 a2 a3 Q (fun M' F C => h M' (sC_F F) (iC_F hI F C))
theorem dm_apart {X : am_X} (hX : am_Cl X) {d : Nat} (hd : 11 ≤ d) {g : sg} (hP : iP g) (a1 a2 a3 : Int32) : dM X d 126 [some (.inr (.inl (28, 0))), some (.inl (a1)), some (.inl (a2)), some (.inl (a3))] g g (q_apart g.2 a1 a2 a3) := by
  intro M hI Q h
  exact cm_apartQ hX d M (by omega) g.2 hP.1 hI.1 a1 a2 a3 Q (fun M' F C => h M' (sM_F F) (iM_F hI F C))
theorem dc_near {X : am_X} (hX : am_Cl X) {d : Nat} (hd : 11 ≤ d) {g : sg} (hP : iP g) (a1 a2 a3 : Int32) : dC X d 20 [some (.inr (.inl (0, 0))), some (.inl (a1)), some (.inl (a2)), some (.inl (a3)), none, none, none] g g (q_near g.2 a1 a2 a3) := by
  intro M hI Q h
  exact cw_near hX d M (by omega) g.2 hP.1 hI.1 a1 a2 a3 Q (fun M' F C => h M' (sC_F F) (iC_F hI F C))
theorem dm_near {X : am_X} (hX : am_Cl X) {d : Nat} (hd : 11 ≤ d) {g : sg} (hP : iP g) (a1 a2 a3 : Int32) : dM X d 127 [some (.inr (.inl (28, 0))), some (.inl (a1)), some (.inl (a2)), some (.inl (a3)), none, none] g g (q_near g.2 a1 a2 a3) := by
  intro M hI Q h
  exact cm_near hX d M (by omega) g.2 hP.1 hI.1 a1 a2 a3 Q (fun M' F C => h M' (sM_F F) (iM_F hI F C))
theorem dc_pairs {X : am_X} (hX : am_Cl X) {d : Nat} (hd : 11 ≤ d) {g : sg} (hP : iP g) (a1 a2 : Int32) : dC X d 21 [some (.inr (.inl (0, 0))), some (.inl (a1)), some (.inl (a2))] g g (q_pairs g.2 (sg_W g) a1 a2) := by
  intro M hI Q h
  exact cw_pairs hX d M (by omega) g.2 hP.1 hI.1.1 (sg_W g) hP.2.1 hI.2.1 a1 a2 Q (fun M' F => h M' (sC_17 F) (iC_17 hI F))
theorem dm_pairs {X : am_X} (hX : am_Cl X) {d : Nat} (hd : 11 ≤ d) {g : sg} (hP : iP g) (a1 a2 : Int32) : dM X d 129 [some (.inr (.inl (28, 0))), some (.inl (a1)), some (.inl (a2))] g g (q_pairs g.2 (sg_W g) a1 a2) := by
  intro M hI Q h
  exact cm_pairs hX d M (by omega) g.2 hP.1 hI.1.1 (sg_W g) hP.2.1 hI.2.1 a1 a2 Q (fun M' F => h M' (sM_P F) (iM_P hI F))
theorem dc_level {X : am_X} (hX : am_Cl X) {d : Nat} (hd : 11 ≤ d) {g : sg} (hP : iP g) (a1 a2 a3 : Int32) : dC X d 22 [some (.inr (.inl (0, 0))), some (.inl (a1)), some (.inl (a2)), some (.inl (a3))] g g (q_level g.2 (sg_W g) a1 a2 a3) := by
  intro M hI Q h
  exact cw_level hX d M (by omega) g.2 hP.1 hI.1.1 (sg_W g) hP.2.1 hI.2.1 a1 a2 a3 Q (fun M' F => h M' (sC_17 F) (iC_17 hI F))
theorem dm_level {X : am_X} (hX : am_Cl X) {d : Nat} (hd : 11 ≤ d) {g : sg} (hP : iP g) (a1 a2 a3 : Int32) : dM X d 130 [some (.inr (.inl (28, 0))), some (.inl (a1)), some (.inl (a2)), some (.inl (a3)), none] g g (q_level g.2 (sg_W g) a1 a2 a3) := by
  intro M hI Q h
  exact cm_level hX d M (by omega) g.2 hP.1 hI.1.1 (sg_W g) hP.2.1 hI.2.1 a1 a2 a3 Q (fun M' F => h M' (sM_P F) (iM_P hI F))
theorem dc_count {X : am_X} (hX : am_Cl X) {d : Nat} (hd : 11 ≤ d) {g : sg} (hP : iP g) (a1 : Int32) : dC X d 24 [some (.inr (.inl (0, 0))), some (.inl (a1))] g g (q_count g.2 (sg_W g) (sg_q g) a1) := by
  intro M hI Q h
  exact cw_count hX d M (by omega) g.2 hP.1 hI.1 (sg_W g) (sg_q g) hI.2.1 hI.2.2.1 a1 Q (fun M' F C => h M' (sC_F F) (iC_F hI F C))
theorem dm_count {X : am_X} (hX : am_Cl X) {d : Nat} (hd : 11 ≤ d) {g : sg} (hP : iP g) (a1 : Int32) : dM X d 133 [some (.inr (.inl (28, 0))), some (.inl (a1)), none, none, none] g g (q_count g.2 (sg_W g) (sg_q g) a1) := by
  intro M hI Q h
  exact cm_count hX d M (by omega) g.2 hP.1 hI.1 (sg_W g) (sg_q g) hI.2.1 hI.2.2.1 a1 Q (fun M' F C => h M' (sM_F F) (iM_F hI F C))
/-- what holds at the head of the law's loop -/
def lw_J (S : Nat → Int32) (N : Nat) (M : am_M) (g : sg) : Prop := iP g ∧ iC M g ∧ iM M g ∧ am_len M 61 = N ∧ ∀ k, M.1 61 0 k = S k
theorem lw_J_on {S : Nat → Int32} {N : Nat} {M M1 M2 : am_M} {g g' : sg} (h : lw_J S N M g) (hP : iP g') (s1 : sC M M1) (c1 : iC M1 g') (s2 : sM M1 M2) (m2 : iM M2 g') : lw_J S N M2 g' := by
  refine ⟨hP, iC_sM c1 s2, m2, ?_, fun k => ?_⟩
  · rw [← h.2.2.2.1]; show (M2.1 61 1 0).toNatClampNeg = (M.1 61 1 0).toNatClampNeg; rw [s2.2 61 _ _ (by omega), s1 61 _ _ (by omega)]
  · rw [s2.2 61 _ _ (by omega), s1 61 _ _ (by omega)]; exact h.2.2.2.2 k
set_option maxRecDepth 20000 in
set_option maxHeartbeats 1000000 in
theorem lw_watcher {X : am_X} (hX : am_Cl X) {d : Nat} (hd : 12 ≤ d) {S : Nat → Int32} {N i : Nat} (hi : i + 5 ≤ N) {M : am_M} {g : sg} (hJ : lw_J S N M g) (Q : am_P) (next : ∀ M' g', lw_J S N M' g' → X d 137 667 [some (.inr (.inl (61, 0))), some (.inr (.inl (0, 0))), some (.inr (.inl (28, 0))), some (.inl (nI i))] [] M' Q) : X d 137 22 [some (.inr (.inl (61, 0))), some (.inr (.inl (0, 0))), some (.inr (.inl (28, 0))), some (.inl (nI i))] [] M Q := by
  obtain ⟨hP, hC, hM, hl, hS⟩ := id hJ
  refine am_go hX [667] 60 ?_
  refine am_cc (by omega) ?_
  refine (fun (z : X (d - 1) 0 0 [some (.inr (.inl (0, 0)))] [] M _) => z) ?_
  refine dc_watcher hX hP  M hC _ (fun M1 s1 c1 => ?_)
  have l1 : am_len M1 61 = N := by rw [← hl]; show (M1.1 61 1 0).toNatClampNeg = (M.1 61 1 0).toNatClampNeg; rw [s1 61 _ _ (by omega)]
  refine am_cc (by omega) ?_
  refine (fun (z : X (d - 1) 86 0 [some (.inr (.inl (28, 0)))] [] M1 _) => z) ?_
  refine dm_watcher hX hP  M1 (iM_sC hM s1) _ (fun M2 s2 m2 => ?_)
  exact ⟨fun _ => next M2 _ (lw_J_on hJ (iP_watcher hP ) s1 c1 s2 m2), fun q => absurd rfl q⟩
set_option maxRecDepth 20000 in
set_option maxHeartbeats 1000000 in
theorem lw_shift {X : am_X} (hX : am_Cl X) {d : Nat} (hd : 12 ≤ d) {S : Nat → Int32} {N i : Nat} (hi : i + 5 ≤ N) {M : am_M} {g : sg} (hJ : lw_J S N M g) (Q : am_P) (next : ∀ M' g', lw_J S N M' g' → X d 137 667 [some (.inr (.inl (61, 0))), some (.inr (.inl (0, 0))), some (.inr (.inl (28, 0))), some (.inl (nI i))] [] M' Q) : X d 137 29 [some (.inr (.inl (61, 0))), some (.inr (.inl (0, 0))), some (.inr (.inl (28, 0))), some (.inl (nI i))] [] M Q := by
  obtain ⟨hP, hC, hM, hl, hS⟩ := id hJ
  refine am_go hX [667] 60 ?_
  refine ⟨i + 1, by show i + 1 < am_len M 61; omega, nI_add i 1, i + 2, by show i + 2 < am_len M 61; omega, nI_add i 2, i + 3, by show i + 3 < am_len M 61; omega, nI_add i 3, am_cc (by omega) ?_⟩
  refine (fun (z : X (d - 1) 1 0 [some (.inr (.inl (0, 0))), some (.inl (M.1 61 0 (i + 1))), some (.inl (M.1 61 0 (i + 2))), some (.inl (M.1 61 0 (i + 3)))] [] M _) => z) ?_
  rw [hS (i + 1), hS (i + 2), hS (i + 3)]
  refine dc_shift hX (by omega) hP (S (i + 1)) (S (i + 2)) (S (i + 3)) M hC _ (fun M1 s1 c1 => ?_)
  have l1 : am_len M1 61 = N := by rw [← hl]; show (M1.1 61 1 0).toNatClampNeg = (M.1 61 1 0).toNatClampNeg; rw [s1 61 _ _ (by omega)]
  refine ⟨i + 1, by show i + 1 < am_len M1 61; omega, nI_add i 1, i + 2, by show i + 2 < am_len M1 61; omega, nI_add i 2, i + 3, by show i + 3 < am_len M1 61; omega, nI_add i 3, am_cc (by omega) ?_⟩
  refine (fun (z : X (d - 1) 87 0 [some (.inr (.inl (28, 0))), some (.inl (M1.1 61 0 (i + 1))), some (.inl (M1.1 61 0 (i + 2))), some (.inl (M1.1 61 0 (i + 3)))] [] M1 _) => z) ?_
  rw [(s1 61 0 (i + 1) (by omega)).trans (hS (i + 1)), (s1 61 0 (i + 2) (by omega)).trans (hS (i + 2)), (s1 61 0 (i + 3) (by omega)).trans (hS (i + 3))]
  refine dm_shift hX (by omega) hP (S (i + 1)) (S (i + 2)) (S (i + 3)) M1 (iM_sC hM s1) _ (fun M2 s2 m2 => ?_)
  exact ⟨fun _ => next M2 _ (lw_J_on hJ (iP_shift hP (S (i + 1)) (S (i + 2)) (S (i + 3))) s1 c1 s2 m2), fun q => absurd rfl q⟩
set_option maxRecDepth 20000 in
set_option maxHeartbeats 1000000 in
theorem lw_dot {X : am_X} (hX : am_Cl X) {d : Nat} (hd : 12 ≤ d) {S : Nat → Int32} {N i : Nat} (hi : i + 5 ≤ N) {M : am_M} {g : sg} (hJ : lw_J S N M g) (Q : am_P) (next : ∀ M' g', lw_J S N M' g' → X d 137 667 [some (.inr (.inl (61, 0))), some (.inr (.inl (0, 0))), some (.inr (.inl (28, 0))), some (.inl (nI i))] [] M' Q) : X d 137 66 [some (.inr (.inl (61, 0))), some (.inr (.inl (0, 0))), some (.inr (.inl (28, 0))), some (.inl (nI i))] [] M Q := by
  obtain ⟨hP, hC, hM, hl, hS⟩ := id hJ
  refine am_go hX [667] 60 ?_
  refine ⟨i + 1, by show i + 1 < am_len M 61; omega, nI_add i 1, i + 2, by show i + 2 < am_len M 61; omega, nI_add i 2, i + 3, by show i + 3 < am_len M 61; omega, nI_add i 3, am_cc (by omega) ?_⟩
  refine (fun (z : X (d - 1) 2 0 [some (.inr (.inl (0, 0))), some (.inl (M.1 61 0 (i + 1))), some (.inl (M.1 61 0 (i + 2))), some (.inl (M.1 61 0 (i + 3))), none] [] M _) => z) ?_
  rw [hS (i + 1), hS (i + 2), hS (i + 3)]
  refine dc_dot hX (by omega) hP (S (i + 1)) (S (i + 2)) (S (i + 3)) M hC _ (fun M1 s1 c1 => ?_)
  have l1 : am_len M1 61 = N := by rw [← hl]; show (M1.1 61 1 0).toNatClampNeg = (M.1 61 1 0).toNatClampNeg; rw [s1 61 _ _ (by omega)]
  refine ⟨i + 1, by show i + 1 < am_len M1 61; omega, nI_add i 1, i + 2, by show i + 2 < am_len M1 61; omega, nI_add i 2, i + 3, by show i + 3 < am_len M1 61; omega, nI_add i 3, am_cc (by omega) ?_⟩
  refine (fun (z : X (d - 1) 88 0 [some (.inr (.inl (28, 0))), some (.inl (M1.1 61 0 (i + 1))), some (.inl (M1.1 61 0 (i + 2))), some (.inl (M1.1 61 0 (i + 3)))] [] M1 _) => z) ?_
  rw [(s1 61 0 (i + 1) (by omega)).trans (hS (i + 1)), (s1 61 0 (i + 2) (by omega)).trans (hS (i + 2)), (s1 61 0 (i + 3) (by omega)).trans (hS (i + 3))]
  refine dm_dot hX (by omega) hP (S (i + 1)) (S (i + 2)) (S (i + 3)) M1 (iM_sC hM s1) _ (fun M2 s2 m2 => ?_)
  exact ⟨fun _ => next M2 _ (lw_J_on hJ (iP_dot hP (S (i + 1)) (S (i + 2)) (S (i + 3))) s1 c1 s2 m2), fun q => absurd rfl q⟩
set_option maxRecDepth 20000 in
set_option maxHeartbeats 1000000 in
theorem lw_scan {X : am_X} (hX : am_Cl X) {d : Nat} (hd : 12 ≤ d) {S : Nat → Int32} {N i : Nat} (hi : i + 5 ≤ N) {M : am_M} {g : sg} (hJ : lw_J S N M g) (Q : am_P) (next : ∀ M' g', lw_J S N M' g' → X d 137 667 [some (.inr (.inl (61, 0))), some (.inr (.inl (0, 0))), some (.inr (.inl (28, 0))), some (.inl (nI i))] [] M' Q) : X d 137 103 [some (.inr (.inl (61, 0))), some (.inr (.inl (0, 0))), some (.inr (.inl (28, 0))), some (.inl (nI i))] [] M Q := by
  obtain ⟨hP, hC, hM, hl, hS⟩ := id hJ
  refine am_go hX [667] 60 ?_
  refine ⟨i + 1, by show i + 1 < am_len M 61; omega, nI_add i 1, i + 2, by show i + 2 < am_len M 61; omega, nI_add i 2, am_cc (by omega) ?_⟩
  refine (fun (z : X (d - 1) 3 0 [some (.inr (.inl (0, 0))), some (.inl (M.1 61 0 (i + 1))), some (.inl (M.1 61 0 (i + 2)))] [] M _) => z) ?_
  rw [hS (i + 1), hS (i + 2)]
  refine dc_scan hX (by omega) hP (S (i + 1)) (S (i + 2)) M hC _ (fun M1 s1 c1 => ?_)
  have l1 : am_len M1 61 = N := by rw [← hl]; show (M1.1 61 1 0).toNatClampNeg = (M.1 61 1 0).toNatClampNeg; rw [s1 61 _ _ (by omega)]
  refine ⟨i + 1, by show i + 1 < am_len M1 61; omega, nI_add i 1, i + 2, by show i + 2 < am_len M1 61; omega, nI_add i 2, am_cc (by omega) ?_⟩
  refine (fun (z : X (d - 1) 89 0 [some (.inr (.inl (28, 0))), some (.inl (M1.1 61 0 (i + 1))), some (.inl (M1.1 61 0 (i + 2))), none] [] M1 _) => z) ?_
  rw [(s1 61 0 (i + 1) (by omega)).trans (hS (i + 1)), (s1 61 0 (i + 2) (by omega)).trans (hS (i + 2))]
  refine dm_scan hX (by omega) hP (S (i + 1)) (S (i + 2)) M1 (iM_sC hM s1) _ (fun M2 s2 m2 => ?_)
  exact ⟨fun _ => next M2 _ (lw_J_on hJ (iP_scan hP (S (i + 1)) (S (i + 2))) s1 c1 s2 m2), fun q => absurd rfl q⟩
set_option maxRecDepth 20000 in
set_option maxHeartbeats 1000000 in
theorem lw_drop {X : am_X} (hX : am_Cl X) {d : Nat} (hd : 12 ≤ d) {S : Nat → Int32} {N i : Nat} (hi : i + 5 ≤ N) {M : am_M} {g : sg} (hJ : lw_J S N M g) (Q : am_P) (next : ∀ M' g', lw_J S N M' g' → X d 137 667 [some (.inr (.inl (61, 0))), some (.inr (.inl (0, 0))), some (.inr (.inl (28, 0))), some (.inl (nI i))] [] M' Q) : X d 137 130 [some (.inr (.inl (61, 0))), some (.inr (.inl (0, 0))), some (.inr (.inl (28, 0))), some (.inl (nI i))] [] M Q := by
  obtain ⟨hP, hC, hM, hl, hS⟩ := id hJ
  refine am_go hX [667] 60 ?_
  refine ⟨i + 1, by show i + 1 < am_len M 61; omega, nI_add i 1, am_cc (by omega) ?_⟩
  refine (fun (z : X (d - 1) 4 0 [some (.inr (.inl (0, 0))), some (.inl (M.1 61 0 (i + 1)))] [] M _) => z) ?_
  rw [hS (i + 1)]
  refine dc_drop hX (by omega) hP (S (i + 1)) M hC _ (fun M1 s1 c1 => ?_)
  have l1 : am_len M1 61 = N := by rw [← hl]; show (M1.1 61 1 0).toNatClampNeg = (M.1 61 1 0).toNatClampNeg; rw [s1 61 _ _ (by omega)]
  refine ⟨i + 1, by show i + 1 < am_len M1 61; omega, nI_add i 1, am_cc (by omega) ?_⟩
  refine (fun (z : X (d - 1) 90 0 [some (.inr (.inl (28, 0))), some (.inl (M1.1 61 0 (i + 1))), none, none] [] M1 _) => z) ?_
  rw [(s1 61 0 (i + 1) (by omega)).trans (hS (i + 1))]
  refine dm_drop hX (by omega) hP (S (i + 1)) M1 (iM_sC hM s1) _ (fun M2 s2 m2 => ?_)
  exact ⟨fun _ => next M2 _ (lw_J_on hJ (iP_drop hP (S (i + 1))) s1 c1 s2 m2), fun q => absurd rfl q⟩
set_option maxRecDepth 20000 in
set_option maxHeartbeats 1000000 in
theorem lw_kind {X : am_X} (hX : am_Cl X) {d : Nat} (hd : 12 ≤ d) {S : Nat → Int32} {N i : Nat} (hi : i + 5 ≤ N) {M : am_M} {g : sg} (hJ : lw_J S N M g) (Q : am_P) (next : ∀ M' g', lw_J S N M' g' → X d 137 667 [some (.inr (.inl (61, 0))), some (.inr (.inl (0, 0))), some (.inr (.inl (28, 0))), some (.inl (nI i))] [] M' Q) : X d 137 147 [some (.inr (.inl (61, 0))), some (.inr (.inl (0, 0))), some (.inr (.inl (28, 0))), some (.inl (nI i))] [] M Q := by
  obtain ⟨hP, hC, hM, hl, hS⟩ := id hJ
  refine am_go hX [667] 60 ?_
  refine ⟨i + 1, by show i + 1 < am_len M 61; omega, nI_add i 1, i + 2, by show i + 2 < am_len M 61; omega, nI_add i 2, am_cc (by omega) ?_⟩
  refine (fun (z : X (d - 1) 5 0 [some (.inr (.inl (0, 0))), some (.inl (M.1 61 0 (i + 1))), some (.inl (M.1 61 0 (i + 2))), none] [] M _) => z) ?_
  rw [hS (i + 1), hS (i + 2)]
  refine dc_kind hX (by omega) (S (i + 1)) (S (i + 2)) M hC _ (fun M1 s1 c1 => ?_)
  have l1 : am_len M1 61 = N := by rw [← hl]; show (M1.1 61 1 0).toNatClampNeg = (M.1 61 1 0).toNatClampNeg; rw [s1 61 _ _ (by omega)]
  refine ⟨i + 1, by show i + 1 < am_len M1 61; omega, nI_add i 1, i + 2, by show i + 2 < am_len M1 61; omega, nI_add i 2, am_cc (by omega) ?_⟩
  refine (fun (z : X (d - 1) 91 0 [some (.inr (.inl (28, 0))), some (.inl (M1.1 61 0 (i + 1))), some (.inl (M1.1 61 0 (i + 2))), none] [] M1 _) => z) ?_
  rw [(s1 61 0 (i + 1) (by omega)).trans (hS (i + 1)), (s1 61 0 (i + 2) (by omega)).trans (hS (i + 2))]
  refine dm_kind hX (by omega) (S (i + 1)) (S (i + 2)) M1 (iM_sC hM s1) _ (fun M2 s2 m2 => ?_)
  exact ⟨fun _ => next M2 _ (lw_J_on hJ (iP_kind hP (S (i + 1)) (S (i + 2))) s1 c1 s2 m2), fun q => absurd rfl q⟩
set_option maxRecDepth 20000 in
set_option maxHeartbeats 1000000 in
theorem lw_rule {X : am_X} (hX : am_Cl X) {d : Nat} (hd : 12 ≤ d) {S : Nat → Int32} {N i : Nat} (hi : i + 5 ≤ N) {M : am_M} {g : sg} (hJ : lw_J S N M g) (Q : am_P) (next : ∀ M' g', lw_J S N M' g' → X d 137 667 [some (.inr (.inl (61, 0))), some (.inr (.inl (0, 0))), some (.inr (.inl (28, 0))), some (.inl (nI i))] [] M' Q) : X d 137 174 [some (.inr (.inl (61, 0))), some (.inr (.inl (0, 0))), some (.inr (.inl (28, 0))), some (.inl (nI i))] [] M Q := by
  obtain ⟨hP, hC, hM, hl, hS⟩ := id hJ
  refine am_go hX [667] 60 ?_
  refine ⟨i + 1, by show i + 1 < am_len M 61; omega, nI_add i 1, i + 2, by show i + 2 < am_len M 61; omega, nI_add i 2, am_cc (by omega) ?_⟩
  refine (fun (z : X (d - 1) 6 0 [some (.inr (.inl (0, 0))), some (.inl (M.1 61 0 (i + 1))), some (.inl (M.1 61 0 (i + 2))), none] [] M _) => z) ?_
  rw [hS (i + 1), hS (i + 2)]
  refine dc_rule hX (by omega) (S (i + 1)) (S (i + 2)) M hC _ (fun M1 s1 c1 => ?_)
  have l1 : am_len M1 61 = N := by rw [← hl]; show (M1.1 61 1 0).toNatClampNeg = (M.1 61 1 0).toNatClampNeg; rw [s1 61 _ _ (by omega)]
  refine ⟨i + 1, by show i + 1 < am_len M1 61; omega, nI_add i 1, i + 2, by show i + 2 < am_len M1 61; omega, nI_add i 2, am_cc (by omega) ?_⟩
  refine (fun (z : X (d - 1) 92 0 [some (.inr (.inl (28, 0))), some (.inl (M1.1 61 0 (i + 1))), some (.inl (M1.1 61 0 (i + 2))), none] [] M1 _) => z) ?_
  rw [(s1 61 0 (i + 1) (by omega)).trans (hS (i + 1)), (s1 61 0 (i + 2) (by omega)).trans (hS (i + 2))]
  refine dm_rule hX (by omega) (S (i + 1)) (S (i + 2)) M1 (iM_sC hM s1) _ (fun M2 s2 m2 => ?_)
  exact ⟨fun _ => next M2 _ (lw_J_on hJ (iP_rule hP (S (i + 1)) (S (i + 2))) s1 c1 s2 m2), fun q => absurd rfl q⟩
set_option maxRecDepth 20000 in
set_option maxHeartbeats 1000000 in
theorem lw_worlds {X : am_X} (hX : am_Cl X) {d : Nat} (hd : 12 ≤ d) {S : Nat → Int32} {N i : Nat} (hi : i + 5 ≤ N) {M : am_M} {g : sg} (hJ : lw_J S N M g) (Q : am_P) (next : ∀ M' g', lw_J S N M' g' → X d 137 667 [some (.inr (.inl (61, 0))), some (.inr (.inl (0, 0))), some (.inr (.inl (28, 0))), some (.inl (nI i))] [] M' Q) : X d 137 201 [some (.inr (.inl (61, 0))), some (.inr (.inl (0, 0))), some (.inr (.inl (28, 0))), some (.inl (nI i))] [] M Q := by
  obtain ⟨hP, hC, hM, hl, hS⟩ := id hJ
  refine am_go hX [667] 60 ?_
  refine am_cc (by omega) ?_
  refine (fun (z : X (d - 1) 7 0 [some (.inr (.inl (0, 0)))] [] M _) => z) ?_
  refine dc_worlds hX (by omega) hP  M hC _ (fun M1 s1 c1 => ?_)
  have l1 : am_len M1 61 = N := by rw [← hl]; show (M1.1 61 1 0).toNatClampNeg = (M.1 61 1 0).toNatClampNeg; rw [s1 61 _ _ (by omega)]
  refine am_cc (by omega) ?_
  refine (fun (z : X (d - 1) 110 0 [some (.inr (.inl (28, 0)))] [] M1 _) => z) ?_
  refine dm_worlds hX (by omega) hP  M1 (iM_sC hM s1) _ (fun M2 s2 m2 => ?_)
  exact ⟨fun _ => next M2 _ (lw_J_on hJ hP s1 c1 s2 m2), fun q => absurd rfl q⟩
set_option maxRecDepth 20000 in
set_option maxHeartbeats 1000000 in
theorem lw_cost {X : am_X} (hX : am_Cl X) {d : Nat} (hd : 12 ≤ d) {S : Nat → Int32} {N i : Nat} (hi : i + 5 ≤ N) {M : am_M} {g : sg} (hJ : lw_J S N M g) (Q : am_P) (next : ∀ M' g', lw_J S N M' g' → X d 137 667 [some (.inr (.inl (61, 0))), some (.inr (.inl (0, 0))), some (.inr (.inl (28, 0))), some (.inl (nI i))] [] M' Q) : X d 137 208 [some (.inr (.inl (61, 0))), some (.inr (.inl (0, 0))), some (.inr (.inl (28, 0))), some (.inl (nI i))] [] M Q := by
  obtain ⟨hP, hC, hM, hl, hS⟩ := id hJ
  refine am_go hX [667] 60 ?_
  refine ⟨i + 1, by show i + 1 < am_len M 61; omega, nI_add i 1, am_cc (by omega) ?_⟩
  refine (fun (z : X (d - 1) 8 0 [some (.inr (.inl (0, 0))), some (.inl (M.1 61 0 (i + 1)))] [] M _) => z) ?_
  rw [hS (i + 1)]
  refine dc_cost hX (by omega) hP (S (i + 1)) M hC _ (fun M1 s1 c1 => ?_)
  have l1 : am_len M1 61 = N := by rw [← hl]; show (M1.1 61 1 0).toNatClampNeg = (M.1 61 1 0).toNatClampNeg; rw [s1 61 _ _ (by omega)]
  refine ⟨i + 1, by show i + 1 < am_len M1 61; omega, nI_add i 1, am_cc (by omega) ?_⟩
  refine (fun (z : X (d - 1) 111 0 [some (.inr (.inl (28, 0))), some (.inl (M1.1 61 0 (i + 1)))] [] M1 _) => z) ?_
  rw [(s1 61 0 (i + 1) (by omega)).trans (hS (i + 1))]
  refine dm_cost hX (by omega) hP (S (i + 1)) M1 (iM_sC hM s1) _ (fun M2 s2 m2 => ?_)
  exact ⟨fun _ => next M2 _ (lw_J_on hJ hP s1 c1 s2 m2), fun q => absurd rfl q⟩
set_option maxRecDepth 20000 in
set_option maxHeartbeats 1000000 in
theorem lw_gap {X : am_X} (hX : am_Cl X) {d : Nat} (hd : 12 ≤ d) {S : Nat → Int32} {N i : Nat} (hi : i + 5 ≤ N) {M : am_M} {g : sg} (hJ : lw_J S N M g) (Q : am_P) (next : ∀ M' g', lw_J S N M' g' → X d 137 667 [some (.inr (.inl (61, 0))), some (.inr (.inl (0, 0))), some (.inr (.inl (28, 0))), some (.inl (nI i))] [] M' Q) : X d 137 225 [some (.inr (.inl (61, 0))), some (.inr (.inl (0, 0))), some (.inr (.inl (28, 0))), some (.inl (nI i))] [] M Q := by
  obtain ⟨hP, hC, hM, hl, hS⟩ := id hJ
  refine am_go hX [667] 60 ?_
  refine ⟨i + 1, by show i + 1 < am_len M 61; omega, nI_add i 1, am_cc (by omega) ?_⟩
  refine (fun (z : X (d - 1) 9 0 [some (.inr (.inl (0, 0))), some (.inl (M.1 61 0 (i + 1)))] [] M _) => z) ?_
  rw [hS (i + 1)]
  refine dc_gap hX (by omega) hP (S (i + 1)) M hC _ (fun M1 s1 c1 => ?_)
  have l1 : am_len M1 61 = N := by rw [← hl]; show (M1.1 61 1 0).toNatClampNeg = (M.1 61 1 0).toNatClampNeg; rw [s1 61 _ _ (by omega)]
  refine ⟨i + 1, by show i + 1 < am_len M1 61; omega, nI_add i 1, am_cc (by omega) ?_⟩
  refine (fun (z : X (d - 1) 112 0 [some (.inr (.inl (28, 0))), some (.inl (M1.1 61 0 (i + 1)))] [] M1 _) => z) ?_
  rw [(s1 61 0 (i + 1) (by omega)).trans (hS (i + 1))]
  refine dm_gap hX (by omega) hP (S (i + 1)) M1 (iM_sC hM s1) _ (fun M2 s2 m2 => ?_)
  exact ⟨fun _ => next M2 _ (lw_J_on hJ hP s1 c1 s2 m2), fun q => absurd rfl q⟩
set_option maxRecDepth 20000 in
set_option maxHeartbeats 1000000 in
theorem lw_tracks {X : am_X} (hX : am_Cl X) {d : Nat} (hd : 12 ≤ d) {S : Nat → Int32} {N i : Nat} (hi : i + 5 ≤ N) {M : am_M} {g : sg} (hJ : lw_J S N M g) (Q : am_P) (next : ∀ M' g', lw_J S N M' g' → X d 137 667 [some (.inr (.inl (61, 0))), some (.inr (.inl (0, 0))), some (.inr (.inl (28, 0))), some (.inl (nI i))] [] M' Q) : X d 137 242 [some (.inr (.inl (61, 0))), some (.inr (.inl (0, 0))), some (.inr (.inl (28, 0))), some (.inl (nI i))] [] M Q := by
  obtain ⟨hP, hC, hM, hl, hS⟩ := id hJ
  refine am_go hX [667] 60 ?_
  refine ⟨i + 1, by show i + 1 < am_len M 61; omega, nI_add i 1, am_cc (by omega) ?_⟩
  refine (fun (z : X (d - 1) 10 0 [some (.inr (.inl (0, 0))), some (.inl (M.1 61 0 (i + 1)))] [] M _) => z) ?_
  rw [hS (i + 1)]
  refine dc_tracks hX (by omega) hP (S (i + 1)) M hC _ (fun M1 s1 c1 => ?_)
  have l1 : am_len M1 61 = N := by rw [← hl]; show (M1.1 61 1 0).toNatClampNeg = (M.1 61 1 0).toNatClampNeg; rw [s1 61 _ _ (by omega)]
  refine ⟨i + 1, by show i + 1 < am_len M1 61; omega, nI_add i 1, am_cc (by omega) ?_⟩
  refine (fun (z : X (d - 1) 113 0 [some (.inr (.inl (28, 0))), some (.inl (M1.1 61 0 (i + 1)))] [] M1 _) => z) ?_
  rw [(s1 61 0 (i + 1) (by omega)).trans (hS (i + 1))]
  refine dm_tracks hX (by omega) hP (S (i + 1)) M1 (iM_sC hM s1) _ (fun M2 s2 m2 => ?_)
  exact ⟨fun _ => next M2 _ (lw_J_on hJ hP s1 c1 s2 m2), fun q => absurd rfl q⟩
set_option maxRecDepth 20000 in
set_option maxHeartbeats 1000000 in
theorem lw_track {X : am_X} (hX : am_Cl X) {d : Nat} (hd : 12 ≤ d) {S : Nat → Int32} {N i : Nat} (hi : i + 5 ≤ N) {M : am_M} {g : sg} (hJ : lw_J S N M g) (Q : am_P) (next : ∀ M' g', lw_J S N M' g' → X d 137 667 [some (.inr (.inl (61, 0))), some (.inr (.inl (0, 0))), some (.inr (.inl (28, 0))), some (.inl (nI i))] [] M' Q) : X d 137 259 [some (.inr (.inl (61, 0))), some (.inr (.inl (0, 0))), some (.inr (.inl (28, 0))), some (.inl (nI i))] [] M Q := by
  obtain ⟨hP, hC, hM, hl, hS⟩ := id hJ
  refine am_go hX [667] 60 ?_
  refine ⟨i + 1, by show i + 1 < am_len M 61; omega, nI_add i 1, i + 2, by show i + 2 < am_len M 61; omega, nI_add i 2, i + 3, by show i + 3 < am_len M 61; omega, nI_add i 3, am_cc (by omega) ?_⟩
  refine (fun (z : X (d - 1) 11 0 [some (.inr (.inl (0, 0))), some (.inl (M.1 61 0 (i + 1))), some (.inl (M.1 61 0 (i + 2))), some (.inl (M.1 61 0 (i + 3)))] [] M _) => z) ?_
  rw [hS (i + 1), hS (i + 2), hS (i + 3)]
  refine dc_track hX (by omega) hP (S (i + 1)) (S (i + 2)) (S (i + 3)) M hC _ (fun M1 s1 c1 => ?_)
  have l1 : am_len M1 61 = N := by rw [← hl]; show (M1.1 61 1 0).toNatClampNeg = (M.1 61 1 0).toNatClampNeg; rw [s1 61 _ _ (by omega)]
  refine ⟨i + 1, by show i + 1 < am_len M1 61; omega, nI_add i 1, i + 2, by show i + 2 < am_len M1 61; omega, nI_add i 2, i + 3, by show i + 3 < am_len M1 61; omega, nI_add i 3, am_cc (by omega) ?_⟩
  refine (fun (z : X (d - 1) 114 0 [some (.inr (.inl (28, 0))), some (.inl (M1.1 61 0 (i + 1))), some (.inl (M1.1 61 0 (i + 2))), some (.inl (M1.1 61 0 (i + 3))), none] [] M1 _) => z) ?_
  rw [(s1 61 0 (i + 1) (by omega)).trans (hS (i + 1)), (s1 61 0 (i + 2) (by omega)).trans (hS (i + 2)), (s1 61 0 (i + 3) (by omega)).trans (hS (i + 3))]
  refine dm_track hX (by omega) hP (S (i + 1)) (S (i + 2)) (S (i + 3)) M1 (iM_sC hM s1) _ (fun M2 s2 m2 => ?_)
  exact ⟨fun _ => next M2 _ (lw_J_on hJ hP s1 c1 s2 m2), fun q => absurd rfl q⟩
set_option maxRecDepth 20000 in
set_option maxHeartbeats 1000000 in
theorem lw_account {X : am_X} (hX : am_Cl X) {d : Nat} (hd : 12 ≤ d) {S : Nat → Int32} {N i : Nat} (hi : i + 5 ≤ N) {M : am_M} {g : sg} (hJ : lw_J S N M g) (Q : am_P) (next : ∀ M' g', lw_J S N M' g' → X d 137 667 [some (.inr (.inl (61, 0))), some (.inr (.inl (0, 0))), some (.inr (.inl (28, 0))), some (.inl (nI i))] [] M' Q) : X d 137 296 [some (.inr (.inl (61, 0))), some (.inr (.inl (0, 0))), some (.inr (.inl (28, 0))), some (.inl (nI i))] [] M Q := by
  obtain ⟨hP, hC, hM, hl, hS⟩ := id hJ
  refine am_go hX [667] 60 ?_
  refine ⟨i + 1, by show i + 1 < am_len M 61; omega, nI_add i 1, i + 2, by show i + 2 < am_len M 61; omega, nI_add i 2, i + 3, by show i + 3 < am_len M 61; omega, nI_add i 3, am_cc (by omega) ?_⟩
  refine (fun (z : X (d - 1) 12 0 [some (.inr (.inl (0, 0))), some (.inl (M.1 61 0 (i + 1))), some (.inl (M.1 61 0 (i + 2))), some (.inl (M.1 61 0 (i + 3)))] [] M _) => z) ?_
  rw [hS (i + 1), hS (i + 2), hS (i + 3)]
  refine dc_account hX (by omega) hP (S (i + 1)) (S (i + 2)) (S (i + 3)) M hC _ (fun M1 s1 c1 => ?_)
  have l1 : am_len M1 61 = N := by rw [← hl]; show (M1.1 61 1 0).toNatClampNeg = (M.1 61 1 0).toNatClampNeg; rw [s1 61 _ _ (by omega)]
  refine ⟨i + 1, by show i + 1 < am_len M1 61; omega, nI_add i 1, i + 2, by show i + 2 < am_len M1 61; omega, nI_add i 2, i + 3, by show i + 3 < am_len M1 61; omega, nI_add i 3, am_cc (by omega) ?_⟩
  refine (fun (z : X (d - 1) 116 0 [some (.inr (.inl (28, 0))), some (.inl (M1.1 61 0 (i + 1))), some (.inl (M1.1 61 0 (i + 2))), some (.inl (M1.1 61 0 (i + 3)))] [] M1 _) => z) ?_
  rw [(s1 61 0 (i + 1) (by omega)).trans (hS (i + 1)), (s1 61 0 (i + 2) (by omega)).trans (hS (i + 2)), (s1 61 0 (i + 3) (by omega)).trans (hS (i + 3))]
  refine dm_account hX (by omega) hP (S (i + 1)) (S (i + 2)) (S (i + 3)) M1 (iM_sC hM s1) _ (fun M2 s2 m2 => ?_)
  exact ⟨fun _ => next M2 _ (lw_J_on hJ hP s1 c1 s2 m2), fun q => absurd rfl q⟩
set_option maxRecDepth 20000 in
set_option maxHeartbeats 1000000 in
theorem lw_foretell {X : am_X} (hX : am_Cl X) {d : Nat} (hd : 12 ≤ d) {S : Nat → Int32} {N i : Nat} (hi : i + 5 ≤ N) {M : am_M} {g : sg} (hJ : lw_J S N M g) (Q : am_P) (next : ∀ M' g', lw_J S N M' g' → X d 137 667 [some (.inr (.inl (61, 0))), some (.inr (.inl (0, 0))), some (.inr (.inl (28, 0))), some (.inl (nI i))] [] M' Q) : X d 137 333 [some (.inr (.inl (61, 0))), some (.inr (.inl (0, 0))), some (.inr (.inl (28, 0))), some (.inl (nI i))] [] M Q := by
  obtain ⟨hP, hC, hM, hl, hS⟩ := id hJ
  refine am_go hX [667] 60 ?_
  refine ⟨i + 1, by show i + 1 < am_len M 61; omega, nI_add i 1, i + 2, by show i + 2 < am_len M 61; omega, nI_add i 2, i + 3, by show i + 3 < am_len M 61; omega, nI_add i 3, i + 4, by show i + 4 < am_len M 61; omega, nI_add i 4, am_cc (by omega) ?_⟩
  refine (fun (z : X (d - 1) 13 0 [some (.inr (.inl (0, 0))), some (.inl (M.1 61 0 (i + 1))), some (.inl (M.1 61 0 (i + 2))), some (.inl (M.1 61 0 (i + 3))), some (.inl (M.1 61 0 (i + 4))), none, none] [] M _) => z) ?_
  rw [hS (i + 1), hS (i + 2), hS (i + 3), hS (i + 4)]
  refine dc_foretell hX (by omega) hP (S (i + 1)) (S (i + 2)) (S (i + 3)) (S (i + 4)) M hC _ (fun M1 s1 c1 => ?_)
  have l1 : am_len M1 61 = N := by rw [← hl]; show (M1.1 61 1 0).toNatClampNeg = (M.1 61 1 0).toNatClampNeg; rw [s1 61 _ _ (by omega)]
  refine ⟨i + 1, by show i + 1 < am_len M1 61; omega, nI_add i 1, i + 2, by show i + 2 < am_len M1 61; omega, nI_add i 2, i + 3, by show i + 3 < am_len M1 61; omega, nI_add i 3, i + 4, by show i + 4 < am_len M1 61; omega, nI_add i 4, am_cc (by omega) ?_⟩
  refine (fun (z : X (d - 1) 117 0 [some (.inr (.inl (28, 0))), some (.inl (M1.1 61 0 (i + 1))), some (.inl (M1.1 61 0 (i + 2))), some (.inl (M1.1 61 0 (i + 3))), some (.inl (M1.1 61 0 (i + 4)))] [] M1 _) => z) ?_
  rw [(s1 61 0 (i + 1) (by omega)).trans (hS (i + 1)), (s1 61 0 (i + 2) (by omega)).trans (hS (i + 2)), (s1 61 0 (i + 3) (by omega)).trans (hS (i + 3)), (s1 61 0 (i + 4) (by omega)).trans (hS (i + 4))]
  refine dm_foretell hX (by omega) hP (S (i + 1)) (S (i + 2)) (S (i + 3)) (S (i + 4)) M1 (iM_sC hM s1) _ (fun M2 s2 m2 => ?_)
  exact ⟨fun _ => next M2 _ (lw_J_on hJ hP s1 c1 s2 m2), fun q => absurd rfl q⟩
set_option maxRecDepth 20000 in
set_option maxHeartbeats 1000000 in
theorem lw_ordered {X : am_X} (hX : am_Cl X) {d : Nat} (hd : 12 ≤ d) {S : Nat → Int32} {N i : Nat} (hi : i + 5 ≤ N) {M : am_M} {g : sg} (hJ : lw_J S N M g) (Q : am_P) (next : ∀ M' g', lw_J S N M' g' → X d 137 667 [some (.inr (.inl (61, 0))), some (.inr (.inl (0, 0))), some (.inr (.inl (28, 0))), some (.inl (nI i))] [] M' Q) : X d 137 380 [some (.inr (.inl (61, 0))), some (.inr (.inl (0, 0))), some (.inr (.inl (28, 0))), some (.inl (nI i))] [] M Q := by
  obtain ⟨hP, hC, hM, hl, hS⟩ := id hJ
  refine am_go hX [667] 60 ?_
  refine ⟨i + 1, by show i + 1 < am_len M 61; omega, nI_add i 1, am_cc (by omega) ?_⟩
  refine (fun (z : X (d - 1) 14 0 [some (.inr (.inl (0, 0))), some (.inl (M.1 61 0 (i + 1)))] [] M _) => z) ?_
  rw [hS (i + 1)]
  refine dc_ordered hX (by omega) hP (S (i + 1)) M hC _ (fun M1 s1 c1 => ?_)
  have l1 : am_len M1 61 = N := by rw [← hl]; show (M1.1 61 1 0).toNatClampNeg = (M.1 61 1 0).toNatClampNeg; rw [s1 61 _ _ (by omega)]
  refine ⟨i + 1, by show i + 1 < am_len M1 61; omega, nI_add i 1, am_cc (by omega) ?_⟩
  refine (fun (z : X (d - 1) 118 0 [some (.inr (.inl (28, 0))), some (.inl (M1.1 61 0 (i + 1)))] [] M1 _) => z) ?_
  rw [(s1 61 0 (i + 1) (by omega)).trans (hS (i + 1))]
  refine dm_ordered hX (by omega) hP (S (i + 1)) M1 (iM_sC hM s1) _ (fun M2 s2 m2 => ?_)
  exact ⟨fun _ => next M2 _ (lw_J_on hJ hP s1 c1 s2 m2), fun q => absurd rfl q⟩
set_option maxRecDepth 20000 in
set_option maxHeartbeats 1000000 in
theorem lw_name {X : am_X} (hX : am_Cl X) {d : Nat} (hd : 12 ≤ d) {S : Nat → Int32} {N i : Nat} (hi : i + 5 ≤ N) {M : am_M} {g : sg} (hJ : lw_J S N M g) (Q : am_P) (next : ∀ M' g', lw_J S N M' g' → X d 137 667 [some (.inr (.inl (61, 0))), some (.inr (.inl (0, 0))), some (.inr (.inl (28, 0))), some (.inl (nI i))] [] M' Q) : X d 137 397 [some (.inr (.inl (61, 0))), some (.inr (.inl (0, 0))), some (.inr (.inl (28, 0))), some (.inl (nI i))] [] M Q := by
  obtain ⟨hP, hC, hM, hl, hS⟩ := id hJ
  refine am_go hX [667] 60 ?_
  refine ⟨i + 1, by show i + 1 < am_len M 61; omega, nI_add i 1, am_cc (by omega) ?_⟩
  refine (fun (z : X (d - 1) 15 0 [some (.inr (.inl (0, 0))), some (.inl (M.1 61 0 (i + 1))), none] [] M _) => z) ?_
  rw [hS (i + 1)]
  refine dc_name hX (by omega) hP (S (i + 1)) M hC _ (fun M1 s1 c1 => ?_)
  have l1 : am_len M1 61 = N := by rw [← hl]; show (M1.1 61 1 0).toNatClampNeg = (M.1 61 1 0).toNatClampNeg; rw [s1 61 _ _ (by omega)]
  refine ⟨i + 1, by show i + 1 < am_len M1 61; omega, nI_add i 1, am_cc (by omega) ?_⟩
  refine (fun (z : X (d - 1) 119 0 [some (.inr (.inl (28, 0))), some (.inl (M1.1 61 0 (i + 1))), none, none, none] [] M1 _) => z) ?_
  rw [(s1 61 0 (i + 1) (by omega)).trans (hS (i + 1))]
  refine dm_name hX (by omega) hP (S (i + 1)) M1 (iM_sC hM s1) _ (fun M2 s2 m2 => ?_)
  exact ⟨fun _ => next M2 _ (lw_J_on hJ hP s1 c1 s2 m2), fun q => absurd rfl q⟩
set_option maxRecDepth 20000 in
set_option maxHeartbeats 1000000 in
theorem lw_sure {X : am_X} (hX : am_Cl X) {d : Nat} (hd : 12 ≤ d) {S : Nat → Int32} {N i : Nat} (hi : i + 5 ≤ N) {M : am_M} {g : sg} (hJ : lw_J S N M g) (Q : am_P) (next : ∀ M' g', lw_J S N M' g' → X d 137 667 [some (.inr (.inl (61, 0))), some (.inr (.inl (0, 0))), some (.inr (.inl (28, 0))), some (.inl (nI i))] [] M' Q) : X d 137 414 [some (.inr (.inl (61, 0))), some (.inr (.inl (0, 0))), some (.inr (.inl (28, 0))), some (.inl (nI i))] [] M Q := by
  obtain ⟨hP, hC, hM, hl, hS⟩ := id hJ
  refine am_go hX [667] 60 ?_
  refine ⟨i + 1, by show i + 1 < am_len M 61; omega, nI_add i 1, i + 2, by show i + 2 < am_len M 61; omega, nI_add i 2, am_cc (by omega) ?_⟩
  refine (fun (z : X (d - 1) 16 0 [some (.inr (.inl (0, 0))), some (.inl (M.1 61 0 (i + 1))), some (.inl (M.1 61 0 (i + 2)))] [] M _) => z) ?_
  rw [hS (i + 1), hS (i + 2)]
  refine dc_sure hX (by omega) hP (S (i + 1)) (S (i + 2)) M hC _ (fun M1 s1 c1 => ?_)
  have l1 : am_len M1 61 = N := by rw [← hl]; show (M1.1 61 1 0).toNatClampNeg = (M.1 61 1 0).toNatClampNeg; rw [s1 61 _ _ (by omega)]
  refine ⟨i + 1, by show i + 1 < am_len M1 61; omega, nI_add i 1, i + 2, by show i + 2 < am_len M1 61; omega, nI_add i 2, am_cc (by omega) ?_⟩
  refine (fun (z : X (d - 1) 121 0 [some (.inr (.inl (28, 0))), some (.inl (M1.1 61 0 (i + 1))), some (.inl (M1.1 61 0 (i + 2)))] [] M1 _) => z) ?_
  rw [(s1 61 0 (i + 1) (by omega)).trans (hS (i + 1)), (s1 61 0 (i + 2) (by omega)).trans (hS (i + 2))]
  refine dm_sure hX (by omega) hP (S (i + 1)) (S (i + 2)) M1 (iM_sC hM s1) _ (fun M2 s2 m2 => ?_)
  exact ⟨fun _ => next M2 _ (lw_J_on hJ hP s1 c1 s2 m2), fun q => absurd rfl q⟩
set_option maxRecDepth 20000 in
set_option maxHeartbeats 1000000 in
theorem lw_alive {X : am_X} (hX : am_Cl X) {d : Nat} (hd : 12 ≤ d) {S : Nat → Int32} {N i : Nat} (hi : i + 5 ≤ N) {M : am_M} {g : sg} (hJ : lw_J S N M g) (Q : am_P) (next : ∀ M' g', lw_J S N M' g' → X d 137 667 [some (.inr (.inl (61, 0))), some (.inr (.inl (0, 0))), some (.inr (.inl (28, 0))), some (.inl (nI i))] [] M' Q) : X d 137 441 [some (.inr (.inl (61, 0))), some (.inr (.inl (0, 0))), some (.inr (.inl (28, 0))), some (.inl (nI i))] [] M Q := by
  obtain ⟨hP, hC, hM, hl, hS⟩ := id hJ
  refine am_go hX [667] 60 ?_
  refine ⟨i + 1, by show i + 1 < am_len M 61; omega, nI_add i 1, am_cc (by omega) ?_⟩
  refine (fun (z : X (d - 1) 17 0 [some (.inr (.inl (0, 0))), some (.inl (M.1 61 0 (i + 1)))] [] M _) => z) ?_
  rw [hS (i + 1)]
  refine dc_alive hX (by omega) hP (S (i + 1)) M hC _ (fun M1 s1 c1 => ?_)
  have l1 : am_len M1 61 = N := by rw [← hl]; show (M1.1 61 1 0).toNatClampNeg = (M.1 61 1 0).toNatClampNeg; rw [s1 61 _ _ (by omega)]
  refine ⟨i + 1, by show i + 1 < am_len M1 61; omega, nI_add i 1, am_cc (by omega) ?_⟩
  refine (fun (z : X (d - 1) 122 0 [some (.inr (.inl (28, 0))), some (.inl (M1.1 61 0 (i + 1))), none, none] [] M1 _) => z) ?_
  rw [(s1 61 0 (i + 1) (by omega)).trans (hS (i + 1))]
  refine dm_alive hX (by omega) hP (S (i + 1)) M1 (iM_sC hM s1) _ (fun M2 s2 m2 => ?_)
  exact ⟨fun _ => next M2 _ (lw_J_on hJ hP s1 c1 s2 m2), fun q => absurd rfl q⟩
set_option maxRecDepth 20000 in
set_option maxHeartbeats 1000000 in
theorem lw_path {X : am_X} (hX : am_Cl X) {d : Nat} (hd : 12 ≤ d) {S : Nat → Int32} {N i : Nat} (hi : i + 5 ≤ N) {M : am_M} {g : sg} (hJ : lw_J S N M g) (Q : am_P) (next : ∀ M' g', lw_J S N M' g' → X d 137 667 [some (.inr (.inl (61, 0))), some (.inr (.inl (0, 0))), some (.inr (.inl (28, 0))), some (.inl (nI i))] [] M' Q) : X d 137 458 [some (.inr (.inl (61, 0))), some (.inr (.inl (0, 0))), some (.inr (.inl (28, 0))), some (.inl (nI i))] [] M Q := by
  obtain ⟨hP, hC, hM, hl, hS⟩ := id hJ
  refine am_go hX [667] 60 ?_
  refine ⟨i + 1, by show i + 1 < am_len M 61; omega, nI_add i 1, i + 2, by show i + 2 < am_len M 61; omega, nI_add i 2, am_cc (by omega) ?_⟩
  refine (fun (z : X (d - 1) 18 0 [some (.inr (.inl (0, 0))), some (.inl (M.1 61 0 (i + 1))), some (.inl (M.1 61 0 (i + 2))), none, none, none, none] [] M _) => z) ?_
  rw [hS (i + 1), hS (i + 2)]
  refine dc_path hX (by omega) hP (S (i + 1)) (S (i + 2)) M hC _ (fun M1 s1 c1 => ?_)
  have l1 : am_len M1 61 = N := by rw [← hl]; show (M1.1 61 1 0).toNatClampNeg = (M.1 61 1 0).toNatClampNeg; rw [s1 61 _ _ (by omega)]
  refine ⟨i + 1, by show i + 1 < am_len M1 61; omega, nI_add i 1, i + 2, by show i + 2 < am_len M1 61; omega, nI_add i 2, am_cc (by omega) ?_⟩
  refine (fun (z : X (d - 1) 123 0 [some (.inr (.inl (28, 0))), some (.inl (M1.1 61 0 (i + 1))), some (.inl (M1.1 61 0 (i + 2))), none, none, none] [] M1 _) => z) ?_
  rw [(s1 61 0 (i + 1) (by omega)).trans (hS (i + 1)), (s1 61 0 (i + 2) (by omega)).trans (hS (i + 2))]
  refine dm_path hX (by omega) hP (S (i + 1)) (S (i + 2)) M1 (iM_sC hM s1) _ (fun M2 s2 m2 => ?_)
  exact ⟨fun _ => next M2 _ (lw_J_on hJ hP s1 c1 s2 m2), fun q => absurd rfl q⟩
set_option maxRecDepth 20000 in
set_option maxHeartbeats 1000000 in
theorem lw_apart {X : am_X} (hX : am_Cl X) {d : Nat} (hd : 12 ≤ d) {S : Nat → Int32} {N i : Nat} (hi : i + 5 ≤ N) {M : am_M} {g : sg} (hJ : lw_J S N M g) (Q : am_P) (next : ∀ M' g', lw_J S N M' g' → X d 137 667 [some (.inr (.inl (61, 0))), some (.inr (.inl (0, 0))), some (.inr (.inl (28, 0))), some (.inl (nI i))] [] M' Q) : X d 137 485 [some (.inr (.inl (61, 0))), some (.inr (.inl (0, 0))), some (.inr (.inl (28, 0))), some (.inl (nI i))] [] M Q := by
  obtain ⟨hP, hC, hM, hl, hS⟩ := id hJ
  refine am_go hX [667] 60 ?_
  refine ⟨i + 1, by show i + 1 < am_len M 61; omega, nI_add i 1, i + 2, by show i + 2 < am_len M 61; omega, nI_add i 2, i + 3, by show i + 3 < am_len M 61; omega, nI_add i 3, am_cc (by omega) ?_⟩
  refine (fun (z : X (d - 1) 19 0 [some (.inr (.inl (0, 0))), some (.inl (M.1 61 0 (i + 1))), some (.inl (M.1 61 0 (i + 2))), some (.inl (M.1 61 0 (i + 3)))] [] M _) => z) ?_
  rw [hS (i + 1), hS (i + 2), hS (i + 3)]
  refine dc_apart hX (by omega) hP (S (i + 1)) (S (i + 2)) (S (i + 3)) M hC _ (fun M1 s1 c1 => ?_)
  have l1 : am_len M1 61 = N := by rw [← hl]; show (M1.1 61 1 0).toNatClampNeg = (M.1 61 1 0).toNatClampNeg; rw [s1 61 _ _ (by omega)]
  refine ⟨i + 1, by show i + 1 < am_len M1 61; omega, nI_add i 1, i + 2, by show i + 2 < am_len M1 61; omega, nI_add i 2, i + 3, by show i + 3 < am_len M1 61; omega, nI_add i 3, am_cc (by omega) ?_⟩
  refine (fun (z : X (d - 1) 126 0 [some (.inr (.inl (28, 0))), some (.inl (M1.1 61 0 (i + 1))), some (.inl (M1.1 61 0 (i + 2))), some (.inl (M1.1 61 0 (i + 3)))] [] M1 _) => z) ?_
  rw [(s1 61 0 (i + 1) (by omega)).trans (hS (i + 1)), (s1 61 0 (i + 2) (by omega)).trans (hS (i + 2)), (s1 61 0 (i + 3) (by omega)).trans (hS (i + 3))]
  refine dm_apart hX (by omega) hP (S (i + 1)) (S (i + 2)) (S (i + 3)) M1 (iM_sC hM s1) _ (fun M2 s2 m2 => ?_)
  exact ⟨fun _ => next M2 _ (lw_J_on hJ hP s1 c1 s2 m2), fun q => absurd rfl q⟩
set_option maxRecDepth 20000 in
set_option maxHeartbeats 1000000 in
theorem lw_near {X : am_X} (hX : am_Cl X) {d : Nat} (hd : 12 ≤ d) {S : Nat → Int32} {N i : Nat} (hi : i + 5 ≤ N) {M : am_M} {g : sg} (hJ : lw_J S N M g) (Q : am_P) (next : ∀ M' g', lw_J S N M' g' → X d 137 667 [some (.inr (.inl (61, 0))), some (.inr (.inl (0, 0))), some (.inr (.inl (28, 0))), some (.inl (nI i))] [] M' Q) : X d 137 522 [some (.inr (.inl (61, 0))), some (.inr (.inl (0, 0))), some (.inr (.inl (28, 0))), some (.inl (nI i))] [] M Q := by
  obtain ⟨hP, hC, hM, hl, hS⟩ := id hJ
  refine am_go hX [667] 60 ?_
  refine ⟨i + 1, by show i + 1 < am_len M 61; omega, nI_add i 1, i + 2, by show i + 2 < am_len M 61; omega, nI_add i 2, i + 3, by show i + 3 < am_len M 61; omega, nI_add i 3, am_cc (by omega) ?_⟩
  refine (fun (z : X (d - 1) 20 0 [some (.inr (.inl (0, 0))), some (.inl (M.1 61 0 (i + 1))), some (.inl (M.1 61 0 (i + 2))), some (.inl (M.1 61 0 (i + 3))), none, none, none] [] M _) => z) ?_
  rw [hS (i + 1), hS (i + 2), hS (i + 3)]
  refine dc_near hX (by omega) hP (S (i + 1)) (S (i + 2)) (S (i + 3)) M hC _ (fun M1 s1 c1 => ?_)
  have l1 : am_len M1 61 = N := by rw [← hl]; show (M1.1 61 1 0).toNatClampNeg = (M.1 61 1 0).toNatClampNeg; rw [s1 61 _ _ (by omega)]
  refine ⟨i + 1, by show i + 1 < am_len M1 61; omega, nI_add i 1, i + 2, by show i + 2 < am_len M1 61; omega, nI_add i 2, i + 3, by show i + 3 < am_len M1 61; omega, nI_add i 3, am_cc (by omega) ?_⟩
  refine (fun (z : X (d - 1) 127 0 [some (.inr (.inl (28, 0))), some (.inl (M1.1 61 0 (i + 1))), some (.inl (M1.1 61 0 (i + 2))), some (.inl (M1.1 61 0 (i + 3))), none, none] [] M1 _) => z) ?_
  rw [(s1 61 0 (i + 1) (by omega)).trans (hS (i + 1)), (s1 61 0 (i + 2) (by omega)).trans (hS (i + 2)), (s1 61 0 (i + 3) (by omega)).trans (hS (i + 3))]
  refine dm_near hX (by omega) hP (S (i + 1)) (S (i + 2)) (S (i + 3)) M1 (iM_sC hM s1) _ (fun M2 s2 m2 => ?_)
  exact ⟨fun _ => next M2 _ (lw_J_on hJ hP s1 c1 s2 m2), fun q => absurd rfl q⟩
set_option maxRecDepth 20000 in
set_option maxHeartbeats 1000000 in
theorem lw_pairs {X : am_X} (hX : am_Cl X) {d : Nat} (hd : 12 ≤ d) {S : Nat → Int32} {N i : Nat} (hi : i + 5 ≤ N) {M : am_M} {g : sg} (hJ : lw_J S N M g) (Q : am_P) (next : ∀ M' g', lw_J S N M' g' → X d 137 667 [some (.inr (.inl (61, 0))), some (.inr (.inl (0, 0))), some (.inr (.inl (28, 0))), some (.inl (nI i))] [] M' Q) : X d 137 559 [some (.inr (.inl (61, 0))), some (.inr (.inl (0, 0))), some (.inr (.inl (28, 0))), some (.inl (nI i))] [] M Q := by
  obtain ⟨hP, hC, hM, hl, hS⟩ := id hJ
  refine am_go hX [667] 60 ?_
  refine ⟨i + 1, by show i + 1 < am_len M 61; omega, nI_add i 1, i + 2, by show i + 2 < am_len M 61; omega, nI_add i 2, am_cc (by omega) ?_⟩
  refine (fun (z : X (d - 1) 21 0 [some (.inr (.inl (0, 0))), some (.inl (M.1 61 0 (i + 1))), some (.inl (M.1 61 0 (i + 2)))] [] M _) => z) ?_
  rw [hS (i + 1), hS (i + 2)]
  refine dc_pairs hX (by omega) hP (S (i + 1)) (S (i + 2)) M hC _ (fun M1 s1 c1 => ?_)
  have l1 : am_len M1 61 = N := by rw [← hl]; show (M1.1 61 1 0).toNatClampNeg = (M.1 61 1 0).toNatClampNeg; rw [s1 61 _ _ (by omega)]
  refine ⟨i + 1, by show i + 1 < am_len M1 61; omega, nI_add i 1, i + 2, by show i + 2 < am_len M1 61; omega, nI_add i 2, am_cc (by omega) ?_⟩
  refine (fun (z : X (d - 1) 129 0 [some (.inr (.inl (28, 0))), some (.inl (M1.1 61 0 (i + 1))), some (.inl (M1.1 61 0 (i + 2)))] [] M1 _) => z) ?_
  rw [(s1 61 0 (i + 1) (by omega)).trans (hS (i + 1)), (s1 61 0 (i + 2) (by omega)).trans (hS (i + 2))]
  refine dm_pairs hX (by omega) hP (S (i + 1)) (S (i + 2)) M1 (iM_sC hM s1) _ (fun M2 s2 m2 => ?_)
  exact ⟨fun _ => next M2 _ (lw_J_on hJ hP s1 c1 s2 m2), fun q => absurd rfl q⟩
set_option maxRecDepth 20000 in
set_option maxHeartbeats 1000000 in
theorem lw_level {X : am_X} (hX : am_Cl X) {d : Nat} (hd : 12 ≤ d) {S : Nat → Int32} {N i : Nat} (hi : i + 5 ≤ N) {M : am_M} {g : sg} (hJ : lw_J S N M g) (Q : am_P) (next : ∀ M' g', lw_J S N M' g' → X d 137 667 [some (.inr (.inl (61, 0))), some (.inr (.inl (0, 0))), some (.inr (.inl (28, 0))), some (.inl (nI i))] [] M' Q) : X d 137 586 [some (.inr (.inl (61, 0))), some (.inr (.inl (0, 0))), some (.inr (.inl (28, 0))), some (.inl (nI i))] [] M Q := by
  obtain ⟨hP, hC, hM, hl, hS⟩ := id hJ
  refine am_go hX [667] 60 ?_
  refine ⟨i + 1, by show i + 1 < am_len M 61; omega, nI_add i 1, i + 2, by show i + 2 < am_len M 61; omega, nI_add i 2, i + 3, by show i + 3 < am_len M 61; omega, nI_add i 3, am_cc (by omega) ?_⟩
  refine (fun (z : X (d - 1) 22 0 [some (.inr (.inl (0, 0))), some (.inl (M.1 61 0 (i + 1))), some (.inl (M.1 61 0 (i + 2))), some (.inl (M.1 61 0 (i + 3)))] [] M _) => z) ?_
  rw [hS (i + 1), hS (i + 2), hS (i + 3)]
  refine dc_level hX (by omega) hP (S (i + 1)) (S (i + 2)) (S (i + 3)) M hC _ (fun M1 s1 c1 => ?_)
  have l1 : am_len M1 61 = N := by rw [← hl]; show (M1.1 61 1 0).toNatClampNeg = (M.1 61 1 0).toNatClampNeg; rw [s1 61 _ _ (by omega)]
  refine ⟨i + 1, by show i + 1 < am_len M1 61; omega, nI_add i 1, i + 2, by show i + 2 < am_len M1 61; omega, nI_add i 2, i + 3, by show i + 3 < am_len M1 61; omega, nI_add i 3, am_cc (by omega) ?_⟩
  refine (fun (z : X (d - 1) 130 0 [some (.inr (.inl (28, 0))), some (.inl (M1.1 61 0 (i + 1))), some (.inl (M1.1 61 0 (i + 2))), some (.inl (M1.1 61 0 (i + 3))), none] [] M1 _) => z) ?_
  rw [(s1 61 0 (i + 1) (by omega)).trans (hS (i + 1)), (s1 61 0 (i + 2) (by omega)).trans (hS (i + 2)), (s1 61 0 (i + 3) (by omega)).trans (hS (i + 3))]
  refine dm_level hX (by omega) hP (S (i + 1)) (S (i + 2)) (S (i + 3)) M1 (iM_sC hM s1) _ (fun M2 s2 m2 => ?_)
  exact ⟨fun _ => next M2 _ (lw_J_on hJ hP s1 c1 s2 m2), fun q => absurd rfl q⟩
set_option maxRecDepth 20000 in
set_option maxHeartbeats 1000000 in
theorem lw_right {X : am_X} (hX : am_Cl X) {d : Nat} (hd : 12 ≤ d) {S : Nat → Int32} {N i : Nat} (hi : i + 5 ≤ N) {M : am_M} {g : sg} (hJ : lw_J S N M g) (Q : am_P) (next : ∀ M' g', lw_J S N M' g' → X d 137 667 [some (.inr (.inl (61, 0))), some (.inr (.inl (0, 0))), some (.inr (.inl (28, 0))), some (.inl (nI i))] [] M' Q) : X d 137 623 [some (.inr (.inl (61, 0))), some (.inr (.inl (0, 0))), some (.inr (.inl (28, 0))), some (.inl (nI i))] [] M Q := by
  obtain ⟨hP, hC, hM, hl, hS⟩ := id hJ
  refine am_go hX [667] 60 ?_
  refine ⟨i + 1, by show i + 1 < am_len M 61; omega, nI_add i 1, i + 2, by show i + 2 < am_len M 61; omega, nI_add i 2, am_cc (by omega) ?_⟩
  refine (fun (z : X (d - 1) 23 0 [some (.inr (.inl (0, 0))), some (.inl (M.1 61 0 (i + 1))), some (.inl (M.1 61 0 (i + 2))), none, none, none] [] M _) => z) ?_
  rw [hS (i + 1), hS (i + 2)]
  refine dc_right hX (by omega) hP (S (i + 1)) (S (i + 2)) M hC _ (fun M1 s1 c1 => ?_)
  have l1 : am_len M1 61 = N := by rw [← hl]; show (M1.1 61 1 0).toNatClampNeg = (M.1 61 1 0).toNatClampNeg; rw [s1 61 _ _ (by omega)]
  refine ⟨i + 1, by show i + 1 < am_len M1 61; omega, nI_add i 1, i + 2, by show i + 2 < am_len M1 61; omega, nI_add i 2, am_cc (by omega) ?_⟩
  refine (fun (z : X (d - 1) 132 0 [some (.inr (.inl (28, 0))), some (.inl (M1.1 61 0 (i + 1))), some (.inl (M1.1 61 0 (i + 2))), none, none, none, none] [] M1 _) => z) ?_
  rw [(s1 61 0 (i + 1) (by omega)).trans (hS (i + 1)), (s1 61 0 (i + 2) (by omega)).trans (hS (i + 2))]
  refine dm_right hX (by omega) hP (S (i + 1)) (S (i + 2)) M1 (iM_sC hM s1) _ (fun M2 s2 m2 => ?_)
  exact ⟨fun _ => next M2 _ (lw_J_on hJ (iP_right hP (S (i + 1)) (S (i + 2))) s1 c1 s2 m2), fun q => absurd rfl q⟩
set_option maxRecDepth 20000 in
set_option maxHeartbeats 1000000 in
theorem lw_count {X : am_X} (hX : am_Cl X) {d : Nat} (hd : 12 ≤ d) {S : Nat → Int32} {N i : Nat} (hi : i + 5 ≤ N) {M : am_M} {g : sg} (hJ : lw_J S N M g) (Q : am_P) (next : ∀ M' g', lw_J S N M' g' → X d 137 667 [some (.inr (.inl (61, 0))), some (.inr (.inl (0, 0))), some (.inr (.inl (28, 0))), some (.inl (nI i))] [] M' Q) : X d 137 650 [some (.inr (.inl (61, 0))), some (.inr (.inl (0, 0))), some (.inr (.inl (28, 0))), some (.inl (nI i))] [] M Q := by
  obtain ⟨hP, hC, hM, hl, hS⟩ := id hJ
  refine am_go hX [667] 60 ?_
  refine ⟨i + 1, by show i + 1 < am_len M 61; omega, nI_add i 1, am_cc (by omega) ?_⟩
  refine (fun (z : X (d - 1) 24 0 [some (.inr (.inl (0, 0))), some (.inl (M.1 61 0 (i + 1)))] [] M _) => z) ?_
  rw [hS (i + 1)]
  refine dc_count hX (by omega) hP (S (i + 1)) M hC _ (fun M1 s1 c1 => ?_)
  have l1 : am_len M1 61 = N := by rw [← hl]; show (M1.1 61 1 0).toNatClampNeg = (M.1 61 1 0).toNatClampNeg; rw [s1 61 _ _ (by omega)]
  refine ⟨i + 1, by show i + 1 < am_len M1 61; omega, nI_add i 1, am_cc (by omega) ?_⟩
  refine (fun (z : X (d - 1) 133 0 [some (.inr (.inl (28, 0))), some (.inl (M1.1 61 0 (i + 1))), none, none, none] [] M1 _) => z) ?_
  rw [(s1 61 0 (i + 1) (by omega)).trans (hS (i + 1))]
  refine dm_count hX (by omega) hP (S (i + 1)) M1 (iM_sC hM s1) _ (fun M2 s2 m2 => ?_)
  exact ⟨fun _ => next M2 _ (lw_J_on hJ hP s1 c1 s2 m2), fun q => absurd rfl q⟩
set_option maxRecDepth 20000 in
set_option maxHeartbeats 1000000 in
theorem lw_loop {X : am_X} (hX : am_Cl X) {d : Nat} (hd : 12 ≤ d) {S : Nat → Int32} {N : Nat} (hN : N ≤ 2560) (Q : am_P) (hQ : ∀ M', Q (some (.inl (1))) M') : ∀ (t i : Nat), N ≤ i + 5 * t → i ≤ N + 5 → ∀ (M : am_M) (g : sg), lw_J S N M g → X d 137 10 [some (.inr (.inl (61, 0))), some (.inr (.inl (0, 0))), some (.inr (.inl (28, 0))), some (.inl (nI i))] [] M Q := by
  intro t
  have n5 : (nI N - 5).toInt = (N : Int) - 5 := by
    have h5 : (5 : Int32).toInt = 5 := by decide
    rw [iz_sub (by rw [nI_toInt (by omega), h5]; omega) (by rw [nI_toInt (by omega), h5]; omega), nI_toInt (by omega), h5]
  induction t with
  | zero =>
    intro i h1 h2 M g hJ
    have el : am_len M 61 = N := hJ.2.2.2.1
    refine am_go hX [10, 22] 30 ?_
    refine ⟨fun _ => ⟨Or.inr rfl, hQ M⟩, fun (q : ¬ nI (am_len M 61) - 5 < nI i) => absurd ?_ q⟩
    rw [el, Int32.lt_iff_toInt_lt, n5, nI_toInt (by omega)]; omega
  | succ t ih =>
    intro i h1 h2 M g hJ
    have el : am_len M 61 = N := hJ.2.2.2.1
    refine am_go hX [22, 29, 66, 103, 130, 147, 174, 201, 208, 225, 242, 259, 296, 333, 380, 397, 414, 441, 458, 485, 522, 559, 586, 623, 650, 667] 30 ?_
    refine ⟨fun _ => ⟨Or.inr rfl, hQ M⟩, fun (q : ¬ nI (am_len M 61) - 5 < nI i) => ?_⟩
    rw [el, Int32.lt_iff_toInt_lt, n5, nI_toInt (by omega)] at q
    have hi : i + 5 ≤ N := by omega
    have next : ∀ M' g', lw_J S N M' g' → X d 137 667 [some (.inr (.inl (61, 0))), some (.inr (.inl (0, 0))), some (.inr (.inl (28, 0))), some (.inl (nI i))] [] M' Q := by
      intro M' g' hJ'
      refine am_go hX [10] 30 ?_
      refine (fun (z : X d 137 10 [some (.inr (.inl (61, 0))), some (.inr (.inl (0, 0))), some (.inr (.inl (28, 0))), some (.inl (nI i + nI 5))] [] M' Q) => z) ?_
      rw [nI_add]
      exact ih (i + 5) (by omega) (by omega) M' g' hJ'
    refine ⟨i, by show i < am_len M 61; omega, rfl, fun _ => next M g hJ, fun _ => lw_watcher hX hd hi hJ Q next, fun _ => lw_shift hX hd hi hJ Q next, fun _ => lw_dot hX hd hi hJ Q next, fun _ => lw_scan hX hd hi hJ Q next, fun _ => lw_drop hX hd hi hJ Q next, fun _ => lw_kind hX hd hi hJ Q next, fun _ => lw_rule hX hd hi hJ Q next, fun _ => lw_worlds hX hd hi hJ Q next, fun _ => lw_cost hX hd hi hJ Q next, fun _ => lw_gap hX hd hi hJ Q next, fun _ => lw_tracks hX hd hi hJ Q next, fun _ => lw_track hX hd hi hJ Q next, fun _ => lw_account hX hd hi hJ Q next, fun _ => lw_foretell hX hd hi hJ Q next, fun _ => lw_ordered hX hd hi hJ Q next, fun _ => lw_name hX hd hi hJ Q next, fun _ => lw_sure hX hd hi hJ Q next, fun _ => lw_alive hX hd hi hJ Q next, fun _ => lw_path hX hd hi hJ Q next, fun _ => lw_apart hX hd hi hJ Q next, fun _ => lw_near hX hd hi hJ Q next, fun _ => lw_pairs hX hd hi hJ Q next, fun _ => lw_level hX hd hi hJ Q next, fun _ => lw_right hX hd hi hJ Q next, fun _ => lw_count hX hd hi hJ Q next, trivial⟩
end
