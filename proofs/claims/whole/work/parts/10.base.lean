/-! steps of calls; rows of the library and of small tests -/
theorem am_cc {d : Nat} {A : am_P → Prop} {B : Option am_V → am_M → Prop} (hd : 1 ≤ d) (h : A B) : 1 ≤ d ∧ ∃ Q' : am_P, A Q' ∧ ∀ (r : Option am_V) (M' : am_M), Q' r M' → B r M' := ⟨hd, B, h, fun _ _ q => q⟩
theorem am_n1 : am_cmp .ne 1 0 := (by decide : ¬ (1 : Int32) = 0)
theorem am_bne1 {A B : Prop} (a : A) : (am_cmp .ne 1 0 → A) ∧ (¬ am_cmp .ne 1 0 → B) := ⟨fun _ => a, fun c => absurd am_n1 c⟩
theorem am_beq1 {A B : Prop} (b : B) : (am_cmp .eq 1 0 → A) ∧ (¬ am_cmp .eq 1 0 → B) := ⟨fun c => absurd c am_n1, fun _ => b⟩
theorem am_bne0 {A B : Prop} (b : B) : (am_cmp .ne 0 0 → A) ∧ (¬ am_cmp .ne 0 0 → B) := ⟨fun c => absurd rfl c, fun _ => b⟩
theorem am_beq0 {A B : Prop} (a : A) : (am_cmp .eq 0 0 → A) ∧ (¬ am_cmp .eq 0 0 → B) := ⟨fun _ => a, fun c => absurd rfl c⟩
theorem lb_max {X : am_X} (hX : am_Cl X) (d : Nat) (M : am_M) (x y : Int32) (Q : am_P) (h : Q (some (.inl (if x < y then y else x))) M) : X d 135 0 [some (.inl x), some (.inl y)] [] M Q := by
  refine am_go hX [] 10 ?_
  refine ⟨fun (c : x < y) => ?_, fun (c : ¬ x < y) => ?_⟩
  · rw [if_pos c] at h; exact h
  · rw [if_neg c] at h; exact h
theorem lb_min {X : am_X} (hX : am_Cl X) (d : Nat) (M : am_M) (x y : Int32) (Q : am_P) (h : Q (some (.inl (if y < x then y else x))) M) : X d 136 0 [some (.inl x), some (.inl y)] [] M Q := by
  refine am_go hX [] 10 ?_
  refine ⟨fun (c : y < x) => ?_, fun (c : ¬ y < x) => ?_⟩
  · rw [if_pos c] at h; exact h
  · rw [if_neg c] at h; exact h
/-- x divided by y, down -/
def lb_fd (x y : Int32) : Int32 := if 0 ≤ x ^^^ y then x / y else if x / y * y = x then x / y else x / y - 1
theorem lb_floorDiv {X : am_X} (hX : am_Cl X) (d : Nat) (M : am_M) (x y : Int32) (hy : ¬ y = 0) (Q : am_P) (h : Q (some (.inl (lb_fd x y))) M) : X d 134 0 [some (.inl x), some (.inl y), none] [] M Q := by
  refine am_go hX [] 20 ?_
  refine ⟨hy, fun (c : 0 ≤ x ^^^ y) => ?_, fun (c : ¬ 0 ≤ x ^^^ y) => ⟨fun (c2 : x / y * y = x) => ?_, fun (c2 : ¬ x / y * y = x) => ?_⟩⟩
  · rw [lb_fd, if_pos c] at h; exact h
  · rw [lb_fd, if_neg c, if_pos c2] at h; exact h
  · rw [lb_fd, if_neg c, if_neg c2] at h; exact h
theorem cw_within {X : am_X} (hX : am_Cl X) (d : Nat) (M : am_M) (v a b : Int32) (Q : am_P) (h1 : a ≤ v → v ≤ b → Q (some (.inl 1)) M) (h0 : ¬ (a ≤ v ∧ v ≤ b) → Q (some (.inl 0)) M) : X d 25 0 [some (.inl v), some (.inl a), some (.inl b)] [] M Q := by
  refine am_go hX [] 20 ?_
  refine ⟨fun (c : v < a) => ⟨Or.inl rfl, h0 fun q => Int32.not_le.mpr c q.1⟩, fun (c : ¬ v < a) => ⟨fun (c2 : b < v) => ⟨Or.inl rfl, h0 fun q => Int32.not_le.mpr c2 q.2⟩, fun (c2 : ¬ b < v) => ⟨Or.inr rfl, h1 (Int32.not_lt.mp c) (Int32.not_lt.mp c2)⟩⟩⟩
theorem cm_in {X : am_X} (hX : am_Cl X) (d : Nat) (M : am_M) (v a b : Int32) (Q : am_P) (h1 : a ≤ v → v ≤ b → Q (some (.inl 1)) M) (h0 : ¬ (a ≤ v ∧ v ≤ b) → Q (some (.inl 0)) M) : X d 82 0 [some (.inr (.inl (28, 0))), some (.inl v), some (.inl a), some (.inl b)] [] M Q := by
  refine am_go hX [] 20 ?_
  refine ⟨fun (c : v < a) => ⟨Or.inl rfl, h0 fun q => Int32.not_le.mpr c q.1⟩, fun (c : ¬ v < a) => ⟨fun (c2 : b < v) => ⟨Or.inl rfl, h0 fun q => Int32.not_le.mpr c2 q.2⟩, fun (c2 : ¬ b < v) => ⟨Or.inr rfl, h1 (Int32.not_lt.mp c) (Int32.not_lt.mp c2)⟩⟩⟩
theorem cw_isWatcher {X : am_X} (hX : am_Cl X) (d : Nat) (M : am_M) (w : Int32) (Q : am_P) (h1 : 0 ≤ w → w < M.1 1 0 1 → Q (some (.inl 1)) M) (h0 : ¬ (0 ≤ w ∧ w < M.1 1 0 1) → Q (some (.inl 0)) M) : X d 32 0 [some (.inr (.inl (1, 0))), some (.inl w)] [] M Q := by
  refine am_go hX [] 20 ?_
  refine ⟨fun (c : w < 0) => ⟨Or.inl rfl, h0 fun q => Int32.not_le.mpr c q.1⟩, fun (c : ¬ w < 0) => ⟨fun (c2 : M.1 1 0 1 ≤ w) => ⟨Or.inl rfl, h0 fun q => Int32.not_lt.mpr c2 q.2⟩, fun (c2 : ¬ M.1 1 0 1 ≤ w) => ⟨Or.inr rfl, h1 (Int32.not_lt.mp c) (Int32.not_le.mp c2)⟩⟩⟩
theorem cw_isScan {X : am_X} (hX : am_Cl X) (d : Nat) (M : am_M) (w : Int32) (Q : am_P) (h1 : 0 ≤ w → w < M.1 1 0 2 → Q (some (.inl 1)) M) (h0 : ¬ (0 ≤ w ∧ w < M.1 1 0 2) → Q (some (.inl 0)) M) : X d 33 0 [some (.inr (.inl (1, 0))), some (.inl w)] [] M Q := by
  refine am_go hX [] 20 ?_
  refine ⟨fun (c : w < 0) => ⟨Or.inl rfl, h0 fun q => Int32.not_le.mpr c q.1⟩, fun (c : ¬ w < 0) => ⟨fun (c2 : M.1 1 0 2 ≤ w) => ⟨Or.inl rfl, h0 fun q => Int32.not_lt.mpr c2 q.2⟩, fun (c2 : ¬ M.1 1 0 2 ≤ w) => ⟨Or.inr rfl, h1 (Int32.not_lt.mp c) (Int32.not_le.mp c2)⟩⟩⟩
theorem cm_isWatcher {X : am_X} (hX : am_Cl X) (d : Nat) (M : am_M) (hd : 1 ≤ d) (w : Int32) (Q : am_P) (h1 : 0 ≤ w → w ≤ M.1 28 0 0 - 1 → Q (some (.inl 1)) M) (h0 : ¬ (0 ≤ w ∧ w ≤ M.1 28 0 0 - 1) → Q (some (.inl 0)) M) : X d 83 0 [some (.inr (.inl (28, 0))), some (.inl w)] [] M Q := by
  refine am_go hX [] 20 ?_
  refine am_cc hd (cm_in hX _ _ _ _ _ _ (fun a b => ⟨Or.inr rfl, h1 a b⟩) (fun a => ⟨Or.inl rfl, h0 a⟩))
theorem cm_isScan {X : am_X} (hX : am_Cl X) (d : Nat) (M : am_M) (hd : 1 ≤ d) (w : Int32) (Q : am_P) (h1 : 0 ≤ w → w ≤ M.1 28 0 1 - 1 → Q (some (.inl 1)) M) (h0 : ¬ (0 ≤ w ∧ w ≤ M.1 28 0 1 - 1) → Q (some (.inl 0)) M) : X d 84 0 [some (.inr (.inl (28, 0))), some (.inl w)] [] M Q := by
  refine am_go hX [] 20 ?_
  refine am_cc hd (cm_in hX _ _ _ _ _ _ (fun a b => ⟨Or.inr rfl, h1 a b⟩) (fun a => ⟨Or.inl rfl, h0 a⟩))
theorem cw_watcher {X : am_X} (hX : am_Cl X) (d : Nat) (M : am_M) (Q : am_P) (h1 : M.1 1 0 1 < 3 → Q (some (.inl (M.1 1 0 1 + 1 - 1))) (am_si M 1 0 1 (M.1 1 0 1 + 1))) (h0 : ¬ M.1 1 0 1 < 3 → Q (some (.inl (-4))) M) : X d 0 0 [some (.inr (.inl (0, 0)))] [] M Q := by
  refine am_go hX [] 40 ?_
  refine ⟨fun (c : M.1 1 0 1 < 3) => ?_, fun (c : ¬ M.1 1 0 1 < 3) => h0 c⟩
  exact h1 c
theorem cw_shift {X : am_X} (hX : am_Cl X) (d : Nat) (M : am_M) (hd : 1 ≤ d) (w a b : Int32) (Q : am_P) (h0 : ¬ (0 ≤ w ∧ w < M.1 1 0 1) → Q (some (.inl (-1))) M) (h1 : 0 ≤ w → w < M.1 1 0 1 → ¬ ((-50 ≤ a ∧ a ≤ 50) ∧ (-50 ≤ b ∧ b ≤ 50)) → Q (some (.inl (-2))) M)
    (h2 : 0 ≤ w → w < M.1 1 0 1 → (-50 ≤ a ∧ a ≤ 50) → (-50 ≤ b ∧ b ≤ 50) → ∃ n, n < 3 ∧ w = nI n ∧ Q (some (.inl 0)) (am_si (am_si (am_si M 2 0 n a) 3 0 n b) 1 0 0 1)) : X d 1 0 [some (.inr (.inl (0, 0))), some (.inl w), some (.inl a), some (.inl b)] [] M Q := by
  refine am_go hX [] 60 ?_
  refine am_cc hd (cw_isWatcher hX _ _ _ _ (fun w1 w2 => ?_) (fun c => am_bne0 (h0 c)))
  refine am_bne1 (am_cc hd (cw_within hX _ _ _ _ _ _ (fun a1 a2 => ?_) (fun c => am_beq0 (h1 w1 w2 fun q => c q.1))))
  refine am_beq1 (am_cc hd (cw_within hX _ _ _ _ _ _ (fun b1 b2 => ?_) (fun c => am_bne0 (h1 w1 w2 fun q => c q.2))))
  refine am_bne1 ?_
  obtain ⟨n, hn, rfl, h⟩ := h2 w1 w2 ⟨a1, a2⟩ ⟨b1, b2⟩
  exact ⟨n, hn, rfl, n, hn, rfl, Or.inr rfl, h⟩
