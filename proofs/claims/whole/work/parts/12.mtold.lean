/-! the reference's told part: its methods over the memory -/
theorem cm_watcher {X : am_X} (hX : am_Cl X) (d : Nat) (M : am_M) (n : Nat) (hn : n ≤ 3) (h2 : M.1 28 0 0 = nI n) (Q : am_P) (h0 : n = 3 → Q (some (.inl (-4))) M) (h : n < 3 → Q (some (.inl (nI n))) (am_si (am_si (am_si M 29 0 n 0) 30 0 n 0) 28 0 0 (nI (n + 1)))) : X d 86 0 [some (.inr (.inl (28, 0)))] [] M Q := by
  refine am_go hX [] 60 ?_
  refine ⟨fun (c : ¬ M.1 28 0 0 = 3) => ?_, fun (c : ¬ ¬ M.1 28 0 0 = 3) => ?_⟩
  · have hn3 : n < 3 := by
      rcases Nat.lt_or_ge n 3 with q | q
      · exact q
      · have : n = 3 := by omega
        subst this; exact absurd h2 c
    have := h hn3
    refine ⟨n, hn3, h2, n, hn3, h2, ?_⟩
    rw [← nI_1, ← h2] at this
    show Q (some (.inl ((am_si (am_si (am_si M 29 0 n 0) 30 0 n 0) 28 0 0 (M.1 28 0 0 + 1)).1 28 0 0 - 1))) _
    rw [show (am_si (am_si (am_si M 29 0 n 0) 30 0 n 0) 28 0 0 (M.1 28 0 0 + 1)).1 28 0 0 - 1 = M.1 28 0 0 from by simp [am_si]]
    exact this
  · refine h0 ?_
    have c := Classical.not_not.mp c
    rw [h2] at c
    exact (nI_eq (a := n) (b := 3) (by omega) (by decide)).mp c
theorem cm_shift {X : am_X} (hX : am_Cl X) (d : Nat) (M : am_M) (hd : 2 ≤ d) (w a b : Int32) (Q : am_P) (h0 : ¬ (0 ≤ w ∧ w ≤ M.1 28 0 0 - 1) → Q (some (.inl (-1))) M) (h1 : 0 ≤ w → w ≤ M.1 28 0 0 - 1 → ¬ ((-50 ≤ a ∧ a ≤ 50) ∧ (-50 ≤ b ∧ b ≤ 50)) → Q (some (.inl (-2))) M)
    (h2 : 0 ≤ w → w ≤ M.1 28 0 0 - 1 → (-50 ≤ a ∧ a ≤ 50) → (-50 ≤ b ∧ b ≤ 50) → ∃ n, n < 3 ∧ w = nI n ∧ Q (some (.inl (0))) (am_si (am_si (am_si M 29 0 n a) 30 0 n b) 28 0 16 1)) : X d 87 0 [some (.inr (.inl (28, 0))), some (.inl (w)), some (.inl (a)), some (.inl (b))] [] M Q := by
  refine am_go hX [] 60 ?_
  refine am_cc (by omega) (cm_isWatcher hX _ _ (by omega) _ _ (fun w1 w2 => ?_) (fun c => am_bne0 (h0 c)))
  refine am_bne1 (am_cc (by omega) (cm_in hX _ _ _ _ _ _ (fun a1 a2 => ?_) (fun c => am_beq0 (h1 w1 w2 fun q => c q.1))))
  refine am_beq1 (am_cc (by omega) (cm_in hX _ _ _ _ _ _ (fun b1 b2 => ?_) (fun c => am_bne0 (h1 w1 w2 fun q => c q.2))))
  refine am_bne1 ?_
  obtain ⟨n, hn, rfl, h⟩ := h2 w1 w2 ⟨a1, a2⟩ ⟨b1, b2⟩
  exact ⟨n, hn, rfl, n, hn, rfl, Or.inr rfl, h⟩
theorem cm_dot {X : am_X} (hX : am_Cl X) (d : Nat) (M : am_M) (hd : 1 ≤ d) (n : Nat) (hn : n ≤ 4) (hc : M.1 28 0 2 = nI n) (x y k : Int32) (Q : am_P)
    (h0 : ¬ ((-1000 ≤ x ∧ x ≤ 1000) ∧ (-1000 ≤ y ∧ y ≤ 1000) ∧ (0 ≤ k ∧ k ≤ 9)) → Q (some (.inl (-2))) M)
    (h : (-1000 ≤ x ∧ x ≤ 1000) → (-1000 ≤ y ∧ y ≤ 1000) → (0 ≤ k ∧ k ≤ 9) → n < 4 → Q (some (.inl (nI (n + 1)))) (am_si (am_si (am_si (am_si M 37 0 n x) 38 0 n y) 39 0 n k) 28 0 2 (nI (n + 1))))
    (h1' : n = 4 → ((-1000 ≤ x ∧ x ≤ 1000) ∧ (-1000 ≤ y ∧ y ≤ 1000) ∧ (0 ≤ k ∧ k ≤ 9)) → Q (some (.inl (-4))) M) : X d 88 0 [some (.inr (.inl (28, 0))), some (.inl (x)), some (.inl (y)), some (.inl (k))] [] M Q := by
  refine am_go hX [] 80 ?_
  refine am_cc hd (cm_in hX _ _ _ _ _ _ (fun a1 a2 => ?_) (fun c => am_beq0 (h0 fun q => c q.1)))
  refine am_beq1 (am_cc hd (cm_in hX _ _ _ _ _ _ (fun b1 b2 => ?_) (fun c => am_beq0 (h0 fun q => c q.2.1))))
  refine am_beq1 (am_cc hd (cm_in hX _ _ _ _ _ _ (fun c1 c2 => ?_) (fun c => am_bne0 (h0 fun q => c q.2.2))))
  refine am_bne1 ⟨fun (c : ¬ M.1 28 0 2 = 4) => ?_, fun (c : ¬ ¬ M.1 28 0 2 = 4) => ?_⟩
  · have hn4 : n < 4 := by
      rcases Nat.lt_or_ge n 4 with q | q
      · exact q
      · have : n = 4 := by omega
        subst this; exact absurd hc c
    refine ⟨n, hn4, hc, n, hn4, hc, n, hn4, hc, ?_⟩
    have := h ⟨a1, a2⟩ ⟨b1, b2⟩ ⟨c1, c2⟩ hn4
    rw [← nI_1, ← hc] at this
    have e : (am_si (am_si (am_si (am_si M 37 0 n x) 38 0 n y) 39 0 n k) 28 0 2 (M.1 28 0 2 + 1)).1 28 0 2 = M.1 28 0 2 + 1 := by simp [am_si]
    rw [← e] at this
    simp only [e] at this
    show Q (some (.inl ((am_si (am_si (am_si (am_si M 37 0 n x) 38 0 n y) 39 0 n k) 28 0 2 (M.1 28 0 2 + 1)).1 28 0 2))) _
    rw [e]; exact this
  · have c := Classical.not_not.mp c
    rw [hc] at c
    exact h1' ((nI_eq (a := n) (b := 4) (by omega) (by decide)).mp c) ⟨⟨a1, a2⟩, ⟨b1, b2⟩, ⟨c1, c2⟩⟩
theorem cm_kind {X : am_X} (hX : am_Cl X) (d : Nat) (M : am_M) (hd : 1 ≤ d) (m k : Int32) (Q : am_P) (h0 : ¬ (1 ≤ m ∧ m ≤ 9) → Q (some (.inl (-1))) M) (h1 : (1 ≤ m ∧ m ≤ 9) → ¬ (0 ≤ k ∧ k ≤ 2) → Q (some (.inl (-2))) M)
    (h : (1 ≤ m ∧ m ≤ 9) → (0 ≤ k ∧ k ≤ 2) → ∃ n, n < 10 ∧ m = nI n ∧ Q (some (.inl (M.1 40 0 n))) (am_si (am_si M 40 0 n k) 28 0 16 1)) : X d 91 0 [some (.inr (.inl (28, 0))), some (.inl (m)), some (.inl (k)), none] [] M Q := by
  refine am_go hX [] 60 ?_
  refine am_cc hd (cm_in hX _ _ _ _ _ _ (fun a1 a2 => ?_) (fun c => am_bne0 (h0 c)))
  refine am_bne1 (am_cc hd (cm_in hX _ _ _ _ _ _ (fun b1 b2 => ?_) (fun c => am_bne0 (h1 ⟨a1, a2⟩ c))))
  obtain ⟨n, hn, e, h'⟩ := h ⟨a1, a2⟩ ⟨b1, b2⟩
  exact am_bne1 ⟨n, hn, e, n, hn, e, Or.inr rfl, h'⟩
theorem cm_rule {X : am_X} (hX : am_Cl X) (d : Nat) (M : am_M) (hd : 1 ≤ d) (m k : Int32) (Q : am_P) (h0 : ¬ (0 ≤ m ∧ m ≤ 5) → Q (some (.inl (-1))) M) (h1 : ∀ n, n < 6 → m = nI n → ¬ (am_stT 59 n ≤ k ∧ k ≤ am_stT 60 n) → Q (some (.inl (-2))) M)
    (h : ∀ n, n < 6 → m = nI n → (am_stT 59 n ≤ k ∧ k ≤ am_stT 60 n) → Q (some (.inl (M.1 41 0 n))) (am_si (am_si M 41 0 n k) 28 0 16 1)) : X d 92 0 [some (.inr (.inl (28, 0))), some (.inl (m)), some (.inl (k)), none] [] M Q := by
  refine am_go hX [31] 80 ?_
  refine am_cc hd (cm_in hX _ _ _ _ _ _ (fun a1 a2 => ?_) (fun c => am_bne0 (h0 c)))
  obtain ⟨n, hn, rfl⟩ : ∃ n, n < 6 ∧ m = nI n := by
    obtain ⟨n, hn, rfl⟩ := nI_of2 (M := 5) (n := 5) rfl (Int32.not_lt.mpr a1) a2
    exact ⟨n, by omega, rfl⟩
  have h0' := h1 n hn rfl
  have h' := h n hn rfl
  have fin : ∀ lo hi : Int32, am_stT 59 n = lo → am_stT 60 n = hi → X d 92 31 [some (.inr (.inl (28, 0))), some (.inl (nI n)), some (.inl (k)), none] [.inl hi, .inl lo, .inl k, .inr (.inl (28, 0))] M Q := by
    rintro lo hi rfl rfl
    refine am_go hX [] 40 ?_
    refine am_cc hd (cm_in hX _ _ _ _ _ _ (fun b1 b2 => ?_) (fun c => am_bne0 (h0' c)))
    exact am_bne1 ⟨n, hn, rfl, n, hn, rfl, Or.inr rfl, h' ⟨b1, b2⟩⟩
  refine am_bne1 ?_
  match n, hn, fin with
  | 0, _, fin => exact ⟨fun (c : (4 : Int32) ≤ nI 0) => absurd c (by decide), fun _ => ⟨fun (c : ¬ nI 0 = 0) => absurd rfl c, fun _ => fin _ _ rfl rfl⟩⟩
  | 1, _, fin => exact ⟨fun (c : (4 : Int32) ≤ nI 1) => absurd c (by decide), fun _ => ⟨fun _ => ⟨fun (c : (4 : Int32) ≤ nI 1) => absurd c (by decide), fun _ => fin _ _ rfl rfl⟩, fun (c : ¬ ¬ nI 1 = 0) => absurd (by decide) c⟩⟩
  | 2, _, fin => exact ⟨fun (c : (4 : Int32) ≤ nI 2) => absurd c (by decide), fun _ => ⟨fun _ => ⟨fun (c : (4 : Int32) ≤ nI 2) => absurd c (by decide), fun _ => fin _ _ rfl rfl⟩, fun (c : ¬ ¬ nI 2 = 0) => absurd (by decide) c⟩⟩
  | 3, _, fin => exact ⟨fun (c : (4 : Int32) ≤ nI 3) => absurd c (by decide), fun _ => ⟨fun _ => ⟨fun (c : (4 : Int32) ≤ nI 3) => absurd c (by decide), fun _ => fin _ _ rfl rfl⟩, fun (c : ¬ ¬ nI 3 = 0) => absurd (by decide) c⟩⟩
  | 4, _, fin => exact ⟨fun _ => ⟨fun _ => ⟨fun _ => ⟨fun (c : ¬ nI 4 = 4) => absurd rfl c, fun _ => fin _ _ rfl rfl⟩, fun (c : ¬ (4 : Int32) ≤ nI 4) => absurd (by decide) c⟩, fun (c : ¬ ¬ nI 4 = 0) => absurd (by decide) c⟩, fun (c : ¬ (4 : Int32) ≤ nI 4) => absurd (by decide) c⟩
  | 5, _, fin => exact ⟨fun _ => ⟨fun _ => ⟨fun _ => ⟨fun _ => fin _ _ rfl rfl, fun (c : ¬ ¬ nI 5 = 4) => absurd (by decide) c⟩, fun (c : ¬ (4 : Int32) ≤ nI 5) => absurd (by decide) c⟩, fun (c : ¬ ¬ nI 5 = 0) => absurd (by decide) c⟩, fun (c : ¬ (4 : Int32) ≤ nI 5) => absurd (by decide) c⟩
  | n + 6, hn, _ => omega
