/-! the code tables are the methods' bytes, decoded; the next index is the next instruction, a branch's index its target; links are among those of the tables -/
def am_pc (y i : Nat) : Nat := (am_nth (am_cd y) i (0, .nop, 0, 0, 0, [])).1
def am_il (ins : Instr) : Nat := match ins with
  | .iload _ => 2 | .aload _ => 2 | .lload _ => 2 | .istore _ => 2 | .astore _ => 2 | .lstore _ => 2 | .bipush _ => 2 | .sipush _ => 3 | .ldc _ => 2 | .iinc _ _ => 3
  | .goto _ => 3 | .ifCond _ _ => 3 | .if_icmp _ _ => 3 | .getfield _ => 3 | .putfield _ => 3 | .getstatic _ => 3 | .invokevirtual _ => 3 | .invokestatic _ => 3 | _ => 1
def am_rt (y : Nat) : Nat := (am_nth am_mth y (0, 0, 0, 0)).2.2.1
def am_has4 (l : List (Nat × Nat × Nat × Nat)) (a b c : Nat) : Bool := l.any fun q => Nat.beq q.1 a && Nat.beq q.2.1 b && Nat.beq q.2.2.1 c
def am_has5 (l : List (Nat × Nat × Nat × Nat × Nat)) (a b c d : Nat) : Bool := l.any fun q => Nat.beq q.1 a && Nat.beq q.2.1 b && Nat.beq q.2.2.1 c && Nat.beq q.2.2.2.1 d
def am_has3 (l : List (Nat × Nat × Nat)) (a b : Nat) : Bool := l.any fun q => Nat.beq q.1 a && Nat.beq q.2.1 b
def am_hasC (l : List (Nat × Nat × Int32 × Nat)) (a b : Nat) (z : Int32) : Bool := l.any fun q => Nat.beq q.1 a && Nat.beq q.2.1 b && decide (q.2.2.1 = z)
/-- the targets of a switch -/
def am_tgs (y p : Nat) : List Nat → List Int → Bool
  | [], [] => true
  | t :: ts, o :: os => decide ((p : Int) + o = (am_pc y t : Int)) && am_tgs y p ts os
  | _, _ => false
/-- what is asked of one row, beside its decoding -/
def am_okI (y i p : Nat) (ins : Instr) (a b : Nat) (z : Int32) (tg : List Nat) : Bool := match ins with
  | .goto off => decide ((p : Int) + off = (am_pc y a : Int))
  | .ifCond _ off => decide ((p : Int) + off = (am_pc y a : Int)) && Nat.beq (am_pc y (i + 1)) (p + 3)
  | .if_icmp _ off => decide ((p : Int) + off = (am_pc y a : Int)) && Nat.beq (am_pc y (i + 1)) (p + 3)
  | .tableswitch d lo hi offs => decide ((p : Int) + d = (am_pc y a : Int)) && am_tgs y p tg offs.toList && decide (hi = lo + (tg.length : Int) - 1)
  | .ireturn => Nat.beq a (am_rt y) && (Nat.beq a 0 || Nat.beq a 1)
  | .lreturn => Nat.beq (am_rt y) 3
  | .areturn => Nat.beq (am_rt y) 4
  | .return_ => Nat.beq (am_rt y) 2
  | .iconst n => decide (Int32.ofInt n = z) && Nat.beq (am_pc y (i + 1)) (p + 1)
  | .bipush n => decide ((Int8.ofInt n).toInt32 = z) && Nat.beq (am_pc y (i + 1)) (p + 2)
  | .sipush n => decide ((Int16.ofInt n).toInt32 = z) && Nat.beq (am_pc y (i + 1)) (p + 3)
  | .ldc n => am_hasC am_kk (am_mc y) n z && Nat.beq (am_pc y (i + 1)) (p + 2)
  | .iinc _ n => decide (Int32.ofInt n = z) && Nat.beq (am_pc y (i + 1)) (p + 3)
  | .getfield n => am_has5 am_fl (am_mc y) n a b && Nat.beq (am_pc y (i + 1)) (p + 3)
  | .putfield n => am_has5 am_fl (am_mc y) n a b && Nat.beq (am_pc y (i + 1)) (p + 3)
  | .getstatic n => am_has4 am_sk (am_mc y) n a && Nat.beq (am_pc y (i + 1)) (p + 3)
  | .invokevirtual n => am_has4 am_mk (am_mc y) n a && Nat.beq (am_mi a) 1 && Nat.beq (am_np a) b && Nat.beq (am_pc y (i + 1)) (p + 3)
  | .invokestatic n => (bif Nat.beq a 999 then am_has3 am_ak (am_mc y) n else am_has4 am_mk (am_mc y) n a && Nat.beq (am_mi a) 0 && Nat.beq (am_np a) b) && Nat.beq (am_pc y (i + 1)) (p + 3)
  | .istore_n k => Nat.blt k (am_ml y) && Nat.beq (am_pc y (i + 1)) (p + 1)
  | .istore k => Nat.blt k (am_ml y) && Nat.beq (am_pc y (i + 1)) (p + 2)
  | .astore_n k => Nat.blt k (am_ml y) && Nat.beq (am_pc y (i + 1)) (p + 1)
  | .astore k => Nat.blt k (am_ml y) && Nat.beq (am_pc y (i + 1)) (p + 2)
  | .lstore k => Nat.blt (k + 1) (am_ml y) && Nat.beq (am_pc y (i + 1)) (p + 2)
  | .new _ => true
  | .invokespecial _ => true
  | _ => Nat.beq (am_pc y (i + 1)) (p + am_il ins)
def am_isSw (ins : Instr) : Bool := match ins with
  | .tableswitch _ _ _ _ => true | .new _ => true | .invokespecial _ => true
  | _ => false
def am_okE (y i : Nat) (e : am_E) : Bool := match e with
  | (p, ins, a, b, z, tg) => (match decode (am_bt y) p with
    | .ok (ins', n) => decide (ins' = ins) && (am_isSw ins || Nat.beq n (am_il ins))
    | .error _ => false) && am_okI y i p ins a b z tg
def am_okL (y : Nat) : Nat → List am_E → Bool
  | _, [] => true
  | i, e :: l => am_okE y i e && am_okL y (i + 1) l
