/-! one step is monotone; up to k steps at once -/
theorem am_i_m {st : List am_V} {K K' : Int32 → List am_V → Prop} (h : ∀ x r, K x r → K' x r) : am_i st K → am_i st K' := by
  unfold am_i; split
  · exact h _ _
  · exact id
theorem am_r_m {st : List am_V} {K K' : Nat → Nat → List am_V → Prop} (h : ∀ f i r, K f i r → K' f i r) : am_r st K → am_r st K' := by
  unfold am_r; split
  · exact h _ _ _
  · exact id
theorem am_l_m {st : List am_V} {K K' : Int64 → List am_V → Prop} (h : ∀ x r, K x r → K' x r) : am_l st K → am_l st K' := by
  unfold am_l; split
  · exact h _ _
  · exact id
theorem am_ii_m {st : List am_V} {K K' : Int32 → Int32 → List am_V → Prop} (h : ∀ x y r, K x y r → K' x y r) : am_ii st K → am_ii st K' := am_i_m fun _ _ => am_i_m fun _ _ => h _ _ _
theorem am_ll_m {st : List am_V} {K K' : Int64 → Int64 → List am_V → Prop} (h : ∀ x y r, K x y r → K' x y r) : am_ll st K → am_ll st K' := am_l_m fun _ _ => am_l_m fun _ _ => h _ _ _
theorem am_vi_m {v : Option am_V} {K K' : Int32 → Prop} (h : ∀ x, K x → K' x) : am_vi v K → am_vi v K' := by
  unfold am_vi; split
  · exact h _
  · exact id
theorem am_vr_m {v : Option am_V} {K K' : Nat → Nat → Prop} (h : ∀ f i, K f i → K' f i) : am_vr v K → am_vr v K' := by
  unfold am_vr; split
  · exact h _ _
  · exact id
theorem am_vl_m {v : Option am_V} {K K' : Int64 → Prop} (h : ∀ x, K x → K' x) : am_vl v K → am_vl v K' := by
  unfold am_vl; split
  · exact h _
  · exact id
theorem am_b_m {c : Bool} {A A' : Prop} (h : A → A') : (bif c then A else False) → (bif c then A' else False) := by
  cases c
  · exact id
  · exact h
theorem am_sw_m {u : Int} {ts : List Nat} {K K' : Nat → Prop} (h : ∀ t, K t → K' t) : ∀ {lo : Int}, am_sw u lo ts K → am_sw u lo ts K' := by
  induction ts with
  | nil => exact fun h => h
  | cons t ts ih => exact fun q => ⟨fun c => h _ (q.1 c), ih q.2⟩
theorem am_call_m {X X' Y : am_X} (h : ∀ d y pc ls st M Q, X d y pc ls st M Q → X' d y pc ls st M Q) {d y pc : Nat} {ls : List (Option am_V)} {M : am_M} {Q : am_P} {callee : Nat} {p : Option (List am_V × List am_V)} {s : Bool} : am_call X Y d y pc ls M Q callee p s → am_call X' Y d y pc ls M Q callee p s := by
  unfold am_call; split
  · exact id
  · exact am_b_m fun ⟨a, Q', b, c⟩ => ⟨a, Q', b, fun r M' q => h _ _ _ _ _ _ _ (c r M' q)⟩
theorem am_F_m {X X' Y : am_X} (h : ∀ d y pc ls st M Q, X d y pc ls st M Q → X' d y pc ls st M Q) {d y pc : Nat} {ls : List (Option am_V)} {st : List am_V} {M : am_M} {Q : am_P} {en : Option am_E} :
    am_F X Y d y pc ls st M Q en → am_F X' Y d y pc ls st M Q en := by
  cases en with
  | none => exact id
  | some e =>
    obtain ⟨p, ins, a, b, z, tg⟩ := e
    cases ins with
    | aload_n k => intro q; simp only [am_F] at q ⊢; exact am_vr_m (fun _ _ => h _ _ _ _ _ _ _) q
    | aload k => intro q; simp only [am_F] at q ⊢; exact am_vr_m (fun _ _ => h _ _ _ _ _ _ _) q
    | iload_n k => exact am_vi_m fun _ => h _ _ _ _ _ _ _
    | iload k => exact am_vi_m fun _ => h _ _ _ _ _ _ _
    | lload_n k => exact am_vl_m fun _ => h _ _ _ _ _ _ _
    | lload k => exact am_vl_m fun _ => h _ _ _ _ _ _ _
    | istore_n k => exact am_i_m fun _ _ => h _ _ _ _ _ _ _
    | istore k => exact am_i_m fun _ _ => h _ _ _ _ _ _ _
    | astore_n k => intro q; simp only [am_F] at q ⊢; exact am_r_m (fun _ _ _ => h _ _ _ _ _ _ _) q
    | astore k => intro q; simp only [am_F] at q ⊢; exact am_r_m (fun _ _ _ => h _ _ _ _ _ _ _) q
    | lstore k => exact am_l_m fun _ _ => h _ _ _ _ _ _ _
    | iconst k => exact h _ _ _ _ _ _ _
    | bipush k => exact h _ _ _ _ _ _ _
    | sipush k => exact h _ _ _ _ _ _ _
    | ldc k => exact h _ _ _ _ _ _ _
    | iadd => exact am_ii_m fun _ _ _ => h _ _ _ _ _ _ _
    | isub => exact am_ii_m fun _ _ _ => h _ _ _ _ _ _ _
    | imul => exact am_ii_m fun _ _ _ => h _ _ _ _ _ _ _
    | iand => exact am_ii_m fun _ _ _ => h _ _ _ _ _ _ _
    | ior => exact am_ii_m fun _ _ _ => h _ _ _ _ _ _ _
    | ixor => exact am_ii_m fun _ _ _ => h _ _ _ _ _ _ _
    | ishl => exact am_ii_m fun _ _ _ => h _ _ _ _ _ _ _
    | ishr => exact am_ii_m fun _ _ _ => h _ _ _ _ _ _ _
    | idiv => exact am_ii_m fun _ _ _ q => ⟨q.1, h _ _ _ _ _ _ _ q.2⟩
    | irem => exact am_ii_m fun _ _ _ q => ⟨q.1, h _ _ _ _ _ _ _ q.2⟩
    | ladd => exact am_ll_m fun _ _ _ => h _ _ _ _ _ _ _
    | lsub => exact am_ll_m fun _ _ _ => h _ _ _ _ _ _ _
    | lmul => exact am_ll_m fun _ _ _ => h _ _ _ _ _ _ _
    | lcmp => exact am_ll_m fun _ _ _ => h _ _ _ _ _ _ _
    | i2l => exact am_i_m fun _ _ => h _ _ _ _ _ _ _
    | l2i => exact am_l_m fun _ _ => h _ _ _ _ _ _ _
    | iinc k n => exact am_vi_m fun _ => h _ _ _ _ _ _ _
    | dup => intro q; simp only [am_F] at q ⊢; exact am_r_m (fun _ _ _ => h _ _ _ _ _ _ _) q
    | dup2 => intro q; simp only [am_F] at q ⊢; exact am_i_m (fun _ _ => am_r_m fun _ _ _ => h _ _ _ _ _ _ _) q
    | goto k => exact h _ _ _ _ _ _ _
    | ifCond c k => exact am_i_m fun _ _ q => ⟨fun c => h _ _ _ _ _ _ _ (q.1 c), fun c => h _ _ _ _ _ _ _ (q.2 c)⟩
    | if_icmp c k => exact am_ii_m fun _ _ _ q => ⟨fun c => h _ _ _ _ _ _ _ (q.1 c), fun c => h _ _ _ _ _ _ _ (q.2 c)⟩
    | tableswitch _ lo hi _ => exact am_i_m fun _ _ q => ⟨fun c => h _ _ _ _ _ _ _ (q.1 c), am_sw_m (fun _ => h _ _ _ _ _ _ _) q.2⟩
    | getfield k => intro q; simp only [am_F] at q ⊢; exact am_r_m (fun _ _ _ => am_b_m (h _ _ _ _ _ _ _)) q
    | putfield k =>
      simp only [am_F]
      split
      · exact am_i_m fun _ _ => am_r_m fun _ _ _ => am_b_m (h _ _ _ _ _ _ _)
      · exact am_i_m fun _ _ => am_r_m fun _ _ _ => am_b_m fun q => ⟨q.1, h _ _ _ _ _ _ _ q.2⟩
      · exact am_r_m fun _ _ _ => am_r_m fun _ _ _ => am_b_m (h _ _ _ _ _ _ _)
      · exact am_l_m fun _ _ => am_r_m fun _ _ _ => am_b_m (h _ _ _ _ _ _ _)
      · exact id
    | iaload => intro q; simp only [am_F] at q ⊢; exact am_i_m (fun _ _ => am_r_m fun _ _ _ => am_b_m fun ⟨n, a, b, q⟩ => ⟨n, a, b, h _ _ _ _ _ _ _ q⟩) q
    | baload => intro q; simp only [am_F] at q ⊢; exact am_i_m (fun _ _ => am_r_m fun _ _ _ => am_b_m fun ⟨n, a, b, q⟩ => ⟨n, a, b, h _ _ _ _ _ _ _ q⟩) q
    | aaload => intro q; simp only [am_F] at q ⊢; exact am_i_m (fun _ _ => am_r_m fun _ _ _ => am_b_m fun ⟨n, a, b, q⟩ => ⟨n, a, b, h _ _ _ _ _ _ _ q⟩) q
    | iastore => intro q; simp only [am_F] at q ⊢; exact am_i_m (fun _ _ => am_i_m fun _ _ => am_r_m fun _ _ _ => am_b_m fun ⟨n, a, b, q⟩ => ⟨n, a, b, h _ _ _ _ _ _ _ q⟩) q
    | bastore => intro q; simp only [am_F] at q ⊢; exact am_i_m (fun _ _ => am_i_m fun _ _ => am_r_m fun _ _ _ => am_b_m fun ⟨n, a, b, c, q⟩ => ⟨n, a, b, c, h _ _ _ _ _ _ _ q⟩) q
    | aastore => intro q; simp only [am_F] at q ⊢; exact am_r_m (fun _ _ _ => am_i_m fun _ _ => am_r_m fun _ _ _ => am_b_m fun ⟨n, a, b, q⟩ => ⟨n, a, b, h _ _ _ _ _ _ _ q⟩) q
    | arraylength => intro q; simp only [am_F] at q ⊢; exact am_r_m (fun _ _ _ => am_b_m (h _ _ _ _ _ _ _)) q
    | getstatic k => exact am_b_m (h _ _ _ _ _ _ _)
    | invokevirtual k => exact am_call_m h
    | invokestatic k =>
      simp only [am_F]
      cases Nat.beq a 999
      · exact am_call_m h
      · exact am_i_m fun _ _ => am_i_m fun _ _ => am_r_m fun _ _ _ => am_i_m fun _ _ => am_r_m fun _ _ _ => am_b_m fun ⟨a, b, c, e, q⟩ => ⟨a, b, c, e, h _ _ _ _ _ _ _ q⟩
    | _ => exact id
theorem am_W_ok {X : am_X} (hX : am_Cl X) (stops : List Nat) (k : Nat) : ∀ d y pc ls st M Q, am_W X stops k d y pc ls st M Q → X d y pc ls st M Q := by
  induction k with
  | zero => exact fun d y pc ls st M Q h => h
  | succ k ih =>
    intro d y pc ls st M Q h
    unfold am_W at h
    cases hb : stops.elem pc with
    | true => rw [hb] at h; exact h
    | false => rw [hb] at h; exact hX d y pc ls st M Q (am_F_m ih h)
/-- from here up to k steps, each branch to its next stop -/
theorem am_go {X : am_X} (hX : am_Cl X) (stops : List Nat) (k : Nat) {d y pc : Nat} {ls : List (Option am_V)} {st : List am_V} {M : am_M} {Q : am_P} (h : am_F (am_W X stops k) X d y pc ls st M Q (am_at y pc)) : X d y pc ls st M Q :=
  hX d y pc ls st M Q (am_F_m (am_W_ok hX stops k) h)
