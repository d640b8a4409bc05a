def am_kind (f : Nat) : Nat := (am_nth am_fam f (9, 0, 0, 0)).1
def am_cnt (f : Nat) : Nat := (am_nth am_fam f (9, 0, 0, 0)).2.1
def am_len0 (f : Nat) : Nat := (am_nth am_fam f (9, 0, 0, 0)).2.2.1
def am_cls (f : Nat) : Nat := (am_nth am_fam f (9, 0, 0, 0)).2.2.2
/-- an array's length: the script's stands beside it -/
def am_len (M : am_M) (f : Nat) : Nat := bif Nat.beq f 61 then (M.1 61 1 0).toNatClampNeg else am_len0 f
def am_fty (c k : Nat) : Nat := am_nth (am_nth am_ftyT c []) k 9
/-- the family that a reference leads to: of a field, by its class; of a row of references, by its family -/
def am_rfF (c k : Nat) : Nat := am_nth (am_nth am_rfT c []) k 99
def am_rfA (f : Nat) : Nat := bif Nat.beq f 4 then 18 else bif Nat.beq f 9 then 24 else bif Nat.beq f 12 then 22 else 27
/-- the place that it leads to -/
def am_riF (M : am_M) (f i k : Nat) : Nat := bif Nat.beq f 8 then (bif Nat.beq k 3 then 0 else M.2.1 8 k) else i
def am_riA (M : am_M) (f i k : Nat) : Nat := bif Nat.beq f 4 then M.2.1 4 k else bif Nat.beq f 12 then M.2.1 12 k else bif Nat.beq f 9 then 4 * i + k else 6 * i + k
def am_stT (f k : Nat) : Int32 := bif Nat.beq f 59 then am_nth [0, 0, 0, 0, 1, 1] k 0 else am_nth [500, 100000, 100000, 100000, 9, 4] k 0
/-- an int of an array: of the two constant ones by their tables -/
def am_iv (M : am_M) (f i n : Nat) : Int32 := bif Nat.beq f 59 then am_stT 59 n else bif Nat.beq f 60 then am_stT 60 n else M.1 f i n
def am_fv (M : am_M) (c f i k : Nat) : am_V := match am_fty c k with
  | 2 => .inr (.inl (am_rfF c k, am_riF M f i k))
  | 3 => .inr (.inr M.2.2)
  | _ => .inl (M.1 f i k)
def am_ml (y : Nat) : Nat := (am_nth am_mth y (0, 0, 0, 0)).2.1
def am_mc (y : Nat) : Nat := (am_nth am_mth y (0, 0, 0, 0)).1
def am_mi (y : Nat) : Nat := (am_nth am_mth y (0, 0, 0, 0)).2.2.2
def am_at (y pc : Nat) : Option am_E := am_nth ((am_cd y).map some) pc none
def am_recv (y : Nat) (as : List am_V) : Bool := match as with
  | .inr (.inl q) :: _ => Nat.beq (am_kind q.1) 0 && Nat.beq (am_cls q.1) (am_mc y)
  | _ => false
def am_call (X Y : am_X) (d y pc : Nat) (ls : List (Option am_V)) (M : am_M) (Q : am_P) (callee : Nat) (p : Option (List am_V × List am_V)) (stat : Bool) : Prop := match p with
  | none => False
  | some (as, rest) => bif Nat.ble (am_cat rest) 8 && Nat.ble (am_cat as) (am_ml callee) && (stat || am_recv callee as) then 1 ≤ d ∧ ∃ Q' : am_P, Y (d - 1) callee 0 (am_ent (am_ml callee) as) [] M Q' ∧ ∀ (r : Option am_V) (M' : am_M), Q' r M' → X d y (pc + 1) ls (r.toList ++ rest) M' Q else False
/-- one step: what must hold at a frame, if X is to hold at the next one, Y of the methods that are called -/
def am_F (X Y : am_X) (d y pc : Nat) (ls : List (Option am_V)) (st : List am_V) (M : am_M) (Q : am_P) (en : Option am_E) : Prop := match en with
  | none => False
  | some (_, ins, a, b, z, tg) => match ins with
    | .aload_n k => am_vr (am_nth ls k none) fun f i => X d y (pc + 1) ls (.inr (.inl (f, i)) :: st) M Q
    | .aload k => am_vr (am_nth ls k none) fun f i => X d y (pc + 1) ls (.inr (.inl (f, i)) :: st) M Q
    | .iload_n k => am_vi (am_nth ls k none) fun x => X d y (pc + 1) ls (.inl x :: st) M Q
    | .iload k => am_vi (am_nth ls k none) fun x => X d y (pc + 1) ls (.inl x :: st) M Q
    | .lload_n k => am_vl (am_nth ls k none) fun x => X d y (pc + 1) ls (.inr (.inr x) :: st) M Q
    | .lload k => am_vl (am_nth ls k none) fun x => X d y (pc + 1) ls (.inr (.inr x) :: st) M Q
    | .istore_n k => am_i st fun x r => X d y (pc + 1) (am_set ls k (.inl x)) r M Q
    | .istore k => am_i st fun x r => X d y (pc + 1) (am_set ls k (.inl x)) r M Q
    | .astore_n k => am_r st fun f i r => X d y (pc + 1) (am_set ls k (.inr (.inl (f, i)))) r M Q
    | .astore k => am_r st fun f i r => X d y (pc + 1) (am_set ls k (.inr (.inl (f, i)))) r M Q
    | .lstore k => am_l st fun x r => X d y (pc + 1) (am_set2 ls k x) r M Q
    | .iconst _ => X d y (pc + 1) ls (.inl z :: st) M Q
    | .bipush _ => X d y (pc + 1) ls (.inl z :: st) M Q
    | .sipush _ => X d y (pc + 1) ls (.inl z :: st) M Q
    | .ldc _ => X d y (pc + 1) ls (.inl z :: st) M Q
    | .iadd => am_ii st fun u v r => X d y (pc + 1) ls (.inl (u + v) :: r) M Q
    | .isub => am_ii st fun u v r => X d y (pc + 1) ls (.inl (u - v) :: r) M Q
    | .imul => am_ii st fun u v r => X d y (pc + 1) ls (.inl (u * v) :: r) M Q
    | .iand => am_ii st fun u v r => X d y (pc + 1) ls (.inl (u &&& v) :: r) M Q
    | .ior => am_ii st fun u v r => X d y (pc + 1) ls (.inl (u ||| v) :: r) M Q
    | .ixor => am_ii st fun u v r => X d y (pc + 1) ls (.inl (u ^^^ v) :: r) M Q
    | .ishl => am_ii st fun u v r => X d y (pc + 1) ls (.inl (u <<< (v &&& 31)) :: r) M Q
    | .ishr => am_ii st fun u v r => X d y (pc + 1) ls (.inl (u >>> (v &&& 31)) :: r) M Q
    | .idiv => am_ii st fun u v r => ¬ v = 0 ∧ X d y (pc + 1) ls (.inl (u / v) :: r) M Q
    | .irem => am_ii st fun u v r => ¬ v = 0 ∧ X d y (pc + 1) ls (.inl (u - u / v * v) :: r) M Q
    | .ladd => am_ll st fun u v r => X d y (pc + 1) ls (.inr (.inr (u + v)) :: r) M Q
    | .lsub => am_ll st fun u v r => X d y (pc + 1) ls (.inr (.inr (u - v)) :: r) M Q
    | .lmul => am_ll st fun u v r => X d y (pc + 1) ls (.inr (.inr (u * v)) :: r) M Q
    | .lcmp => am_ll st fun u v r => X d y (pc + 1) ls (.inl (lg_cmp u v) :: r) M Q
    | .i2l => am_i st fun u r => X d y (pc + 1) ls (.inr (.inr u.toInt64) :: r) M Q
    | .l2i => am_l st fun u r => X d y (pc + 1) ls (.inl u.toInt32 :: r) M Q
    | .iinc k _ => am_vi (am_nth ls k none) fun x => X d y (pc + 1) (am_set ls k (.inl (x + z))) st M Q
    | .dup => am_r st fun f i r => X d y (pc + 1) ls (.inr (.inl (f, i)) :: .inr (.inl (f, i)) :: r) M Q
    | .dup2 => am_i st fun j r => am_r r fun f i r => X d y (pc + 1) ls (.inl j :: .inr (.inl (f, i)) :: .inl j :: .inr (.inl (f, i)) :: r) M Q
    | .goto _ => X d y a ls st M Q
    | .ifCond c _ => am_i st fun u r => (am_cmp c u 0 → X d y a ls r M Q) ∧ (¬ am_cmp c u 0 → X d y (pc + 1) ls r M Q)
    | .if_icmp c _ => am_ii st fun u v r => (am_cmp c u v → X d y a ls r M Q) ∧ (¬ am_cmp c u v → X d y (pc + 1) ls r M Q)
    | .tableswitch _ lo hi _ => am_i st fun u r => ((u.toInt < lo ∨ hi < u.toInt) → X d y a ls r M Q) ∧ am_sw u.toInt lo tg fun t => X d y t ls r M Q
    | .getfield _ => am_r st fun f i r => bif Nat.beq (am_kind f) 0 && Nat.beq (am_cls f) a then X d y (pc + 1) ls (am_fv M a f i b :: r) M Q else False
    | .putfield _ => match am_fty a b with
      | 0 => am_i st fun x r => am_r r fun f i r => bif Nat.beq (am_kind f) 0 && Nat.beq (am_cls f) a then X d y (pc + 1) ls r (am_si M f i b x) Q else False
      | 1 => am_i st fun x r => am_r r fun f i r => bif Nat.beq (am_kind f) 0 && Nat.beq (am_cls f) a then (x = 0 ∨ x = 1) ∧ X d y (pc + 1) ls r (am_si M f i b x) Q else False
      | 2 => am_r st fun g j r => am_r r fun f i r => bif Nat.beq f 8 && Nat.beq a 2 && Nat.beq g 9 && (Nat.beq b 0 || Nat.beq b 2) then X d y (pc + 1) ls r (am_sv M f b j) Q else False
      | 3 => am_l st fun x r => am_r r fun f i r => bif Nat.beq f 10 && Nat.beq a 3 then X d y (pc + 1) ls r (am_sl M x) Q else False
      | _ => False
    | .iaload => am_i st fun j r => am_r r fun f i r => bif Nat.beq (am_kind f) 1 then ∃ n : Nat, n < am_len M f ∧ j = nI n ∧ X d y (pc + 1) ls (.inl (am_iv M f i n) :: r) M Q else False
    | .baload => am_i st fun j r => am_r r fun f i r => bif Nat.beq (am_kind f) 2 then ∃ n : Nat, n < am_len M f ∧ j = nI n ∧ X d y (pc + 1) ls (.inl (M.1 f i n) :: r) M Q else False
    | .aaload => am_i st fun j r => am_r r fun f i r => bif Nat.beq (am_kind f) 3 then ∃ n : Nat, n < am_len M f ∧ j = nI n ∧ X d y (pc + 1) ls (.inr (.inl (am_rfA f, am_riA M f i n)) :: r) M Q else False
    | .iastore => am_i st fun x r => am_i r fun j r => am_r r fun f i r => bif Nat.beq (am_kind f) 1 && Nat.blt f 59 then ∃ n : Nat, n < am_len M f ∧ j = nI n ∧ X d y (pc + 1) ls r (am_si M f i n x) Q else False
    | .bastore => am_i st fun x r => am_i r fun j r => am_r r fun f i r => bif Nat.beq (am_kind f) 2 then ∃ n : Nat, n < am_len M f ∧ j = nI n ∧ (x = 0 ∨ x = 1) ∧ X d y (pc + 1) ls r (am_si M f i n x) Q else False
    | .aastore => am_r st fun g k r => am_i r fun j r => am_r r fun f i r => bif (Nat.beq f 4 && Nat.beq g 18) || (Nat.beq f 12 && Nat.beq g 22) then ∃ n : Nat, n < am_len M f ∧ j = nI n ∧ X d y (pc + 1) ls r (am_sv M f n k) Q else False
    | .arraylength => am_r st fun f i r => bif Nat.beq (am_kind f) 1 then X d y (pc + 1) ls (.inl (nI (am_len M f)) :: r) M Q else False
    | .getstatic _ => bif Nat.beq a 59 || Nat.beq a 60 then X d y (pc + 1) ls (.inr (.inl (a, 0)) :: st) M Q else False
    | .invokevirtual _ => am_call X Y d y pc ls M Q a (am_pop (b + 1) st []) false
    | .invokestatic _ => bif Nat.beq a 999 then am_i st fun n r => am_i r fun q r => am_r r fun g k r => am_i r fun p r => am_r r fun f i r => bif Nat.ble (am_cat r) 8 && Nat.beq (am_kind f) 1 && Nat.beq (am_kind g) 1 && Nat.blt f 59 && Nat.blt g 59 && Nat.beq (am_len0 f) (am_len0 g) then 1 ≤ d ∧ p = 0 ∧ q = 0 ∧ n = nI (am_len0 f) ∧ X d y (pc + 1) ls r (am_sr M g k (va_cpy (M.1 f i) (M.1 g k) 0 0 (am_len0 f))) Q else False
      else am_call X Y d y pc ls M Q a (am_pop b st []) true
    | .ireturn => am_i st fun x r => match r with
      | [] => bif Nat.beq a 1 then (x = 0 ∨ x = 1) ∧ Q (some (.inl x)) M else Q (some (.inl x)) M
      | _ => False
    | .lreturn => am_l st fun x r => match r with
      | [] => Q (some (.inr (.inr x))) M
      | _ => False
    | .areturn => am_r st fun f i r => match r with
      | [] => Q (some (.inr (.inl (f, i)))) M
      | _ => False
    | .return_ => match st with
      | [] => Q none M
      | _ => False
    | _ => False
/-- closed under one step: all that is proved of methods is proved of every X that is -/
def am_Cl (X : am_X) : Prop := ∀ d y pc ls st M Q, am_F X X d y pc ls st M Q (am_at y pc) → X d y pc ls st M Q
/-- up to k steps, or to an index among stops -/
def am_W (X : am_X) (stops : List Nat) : Nat → am_X
  | 0 => X
  | k + 1 => fun d y pc ls st M Q => bif stops.elem pc then X d y pc ls st M Q else am_F (am_W X stops k) X d y pc ls st M Q (am_at y pc)
