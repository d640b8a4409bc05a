/-! the class's told part: its methods over the memory -/
theorem cw_waiting {X : am_X} (hX : am_Cl X) (d : Nat) (M : am_M) (n : Nat) (hn : n < 13) (hs : M.1 1 0 2 = nI n) (Q : am_P) (h : Q (some (.inr (.inl (18, M.2.1 4 n)))) M) : X d 35 0 [some (.inr (.inl (1, 0)))] [] M Q := by
  refine am_go hX [] 20 ?_
  exact ⟨n, hn, hs, h⟩
theorem cw_add {X : am_X} (hX : am_Cl X) (d : Nat) (M : am_M) (i n : Nat) (hn : n < 4) (hs : M.1 18 i 2 = nI n) (x y k : Int32) (Q : am_P) (h : Q none (am_si (am_si (am_si (am_si M 19 i n x) 20 i n y) 21 i n k) 18 i 2 (M.1 18 i 2 + 1))) : X d 62 0 [some (.inr (.inl (18, i))), some (.inl (x)), some (.inl (y)), some (.inl (k))] [] M Q := by
  refine am_go hX [] 40 ?_
  refine ⟨fun (c : 4 ≤ M.1 18 i 2) => ?_, fun _ => ?_⟩
  · rw [hs] at c; exact absurd c (nI_ge hn (by decide))
  · exact ⟨n, hn, hs, n, hn, hs, n, hn, hs, h⟩
theorem cw_dot {X : am_X} (hX : am_Cl X) (d : Nat) (M : am_M) (hd : 1 ≤ d) (s n : Nat) (hs : s < 13) (hn : n ≤ 4) (h2 : M.1 1 0 2 = nI s) (hc : M.1 18 (M.2.1 4 s) 2 = nI n) (x y k : Int32) (Q : am_P)
    (h0 : ¬ ((-1000 ≤ x ∧ x ≤ 1000) ∧ (-1000 ≤ y ∧ y ≤ 1000) ∧ (0 ≤ k ∧ k ≤ 9)) → Q (some (.inl (-2))) M)
    (h : (-1000 ≤ x ∧ x ≤ 1000) → (-1000 ≤ y ∧ y ≤ 1000) → (0 ≤ k ∧ k ≤ 9) → n < 4 → Q (some (.inl (nI (n + 1)))) (am_si (am_si (am_si (am_si M 19 (M.2.1 4 s) n x) 20 (M.2.1 4 s) n y) 21 (M.2.1 4 s) n k) 18 (M.2.1 4 s) 2 (nI (n + 1))))
    (h1' : n = 4 → ((-1000 ≤ x ∧ x ≤ 1000) ∧ (-1000 ≤ y ∧ y ≤ 1000) ∧ (0 ≤ k ∧ k ≤ 9)) → Q (some (.inl (-4))) M) : X d 2 0 [some (.inr (.inl (0, 0))), some (.inl (x)), some (.inl (y)), some (.inl (k)), none] [] M Q := by
  refine am_go hX [] 60 ?_
  refine am_cc hd (cw_within hX _ _ _ _ _ _ (fun a1 a2 => ?_) (fun c => am_beq0 (h0 fun q => c q.1)))
  refine am_beq1 (am_cc hd (cw_within hX _ _ _ _ _ _ (fun b1 b2 => ?_) (fun c => am_beq0 (h0 fun q => c q.2.1))))
  refine am_beq1 (am_cc hd (cw_within hX _ _ _ _ _ _ (fun c1 c2 => ?_) (fun c => am_bne0 (h0 fun q => c q.2.2))))
  refine am_bne1 (am_cc hd (cw_waiting hX _ _ s hs h2 _ ?_))
  refine ⟨fun (c : M.1 18 (M.2.1 4 s) 2 < 4) => ?_, fun (c : ¬ M.1 18 (M.2.1 4 s) 2 < 4) => ?_⟩
  · have hn4 : n < 4 := by
      rcases Nat.lt_or_ge n 4 with q | q
      · exact q
      · rw [hc] at c; exact absurd c (nI_nlt (a := n) (b := 4) q (by omega))
    refine am_cc hd (cw_add hX _ _ _ n hn4 hc _ _ _ _ ?_)
    have e : M.1 18 (M.2.1 4 s) 2 + 1 = nI (n + 1) := by rw [hc, nI_1]
    rw [e]
    have := h ⟨a1, a2⟩ ⟨b1, b2⟩ ⟨c1, c2⟩ hn4
    show Q (some (.inl ((am_si _ 18 (M.2.1 4 s) 2 (nI (n + 1))).1 18 (M.2.1 4 s) 2))) _
    rw [show (am_si (am_si (am_si (am_si M 19 (M.2.1 4 s) n x) 20 (M.2.1 4 s) n y) 21 (M.2.1 4 s) n k) 18 (M.2.1 4 s) 2 (nI (n + 1))).1 18 (M.2.1 4 s) 2 = nI (n + 1) from by simp [am_si]]
    exact this
  · have hn4 : n = 4 := by
      rcases Nat.lt_or_ge n 4 with q | q
      · rw [hc] at c; exact absurd (nI_lt q (by decide)) c
      · omega
    exact h1' hn4 ⟨⟨a1, a2⟩, ⟨b1, b2⟩, ⟨c1, c2⟩⟩
/-- a scan is closed: the memory behind it -/
def cw_closeM (M : am_M) (s : Nat) (w m : Int32) : am_M := am_si (am_si (am_si (am_si M 18 (M.2.1 4 s) 0 w) 18 (M.2.1 4 s) 1 m) 1 0 2 (nI (s + 1))) 18 (M.2.1 4 (s + 1)) 2 0
theorem cw_close {X : am_X} (hX : am_Cl X) (d : Nat) (M : am_M) (s : Nat) (hs : s < 12) (h2 : M.1 1 0 2 = nI s) (w m : Int32) (Q : am_P) (h : Q none (cw_closeM M s w m)) : X d 36 0 [some (.inr (.inl (1, 0))), some (.inl (w)), some (.inl (m))] [] M Q := by
  refine am_go hX [] 40 ?_
  refine ⟨fun (c : 12 ≤ M.1 1 0 2) => ?_, fun _ => ?_⟩
  · rw [h2] at c; exact absurd c (nI_ge hs (by decide))
  · refine ⟨s, by show s < 13; omega, h2, s, by show s < 13; omega, h2, s + 1, by show s + 1 < 13; omega, ?_, ?_⟩
    · show (am_si _ 1 0 2 (M.1 1 0 2 + 1)).1 1 0 2 = nI (s + 1)
      simp [am_si, h2, nI_1]
    · unfold cw_closeM at h
      rw [← nI_1, ← h2] at h
      exact h
theorem cw_scan {X : am_X} (hX : am_Cl X) (d : Nat) (M : am_M) (hd : 1 ≤ d) (s : Nat) (hs : s ≤ 12) (h2 : M.1 1 0 2 = nI s) (w m : Int32) (Q : am_P)
    (h0 : ¬ (0 ≤ w ∧ w < M.1 1 0 1) → Q (some (.inl (-1))) M) (h1 : 0 ≤ w → w < M.1 1 0 1 → ¬ (0 ≤ m ∧ m ≤ 999) → Q (some (.inl (-2))) M) (h3 : 0 ≤ w → w < M.1 1 0 1 → (0 ≤ m ∧ m ≤ 999) → s = 12 → Q (some (.inl (-4))) M)
    (h : 0 ≤ w → w < M.1 1 0 1 → (0 ≤ m ∧ m ≤ 999) → s < 12 → Q (some (.inl (nI s))) (am_si (cw_closeM M s w m) 1 0 0 1)) : X d 3 0 [some (.inr (.inl (0, 0))), some (.inl (w)), some (.inl (m))] [] M Q := by
  refine am_go hX [] 60 ?_
  refine am_cc hd (cw_isWatcher hX _ _ _ _ (fun w1 w2 => ?_) (fun c => am_bne0 (h0 c)))
  refine am_bne1 (am_cc hd (cw_within hX _ _ _ _ _ _ (fun a1 a2 => ?_) (fun c => am_bne0 (h1 w1 w2 c))))
  refine am_bne1 ⟨fun (c : M.1 1 0 2 < 12) => ?_, fun (c : ¬ M.1 1 0 2 < 12) => ?_⟩
  · have hs12 : s < 12 := by
      rcases Nat.lt_or_ge s 12 with q | q
      · exact q
      · rw [h2] at c; exact absurd c (nI_nlt (a := s) (b := 12) q (by omega))
    refine am_cc hd (cw_close hX _ _ s hs12 h2 _ _ _ ?_)
    refine ⟨Or.inr rfl, ?_⟩
    have := h w1 w2 ⟨a1, a2⟩ hs12
    show Q (some (.inl ((am_si (cw_closeM M s w m) 1 0 0 1).1 1 0 2 - 1))) _
    rw [show (am_si (cw_closeM M s w m) 1 0 0 1).1 1 0 2 = nI (s + 1) from by simp [am_si, cw_closeM], nI_pred]
    exact this
  · have hs12 : s = 12 := by
      rcases Nat.lt_or_ge s 12 with q | q
      · rw [h2] at c; exact absurd (nI_lt q (by decide)) c
      · omega
    exact h3 w1 w2 ⟨a1, a2⟩ hs12
/-- scans behind j move one place ahead, from k on up to n -/
def cw_rot (V : Nat → Nat → Nat) (k n : Nat) : Nat → Nat → Nat := fun f j => if f = 4 ∧ k ≤ j ∧ j < n then V 4 (j + 1) else V f j
theorem cw_remove {X : am_X} (hX : am_Cl X) (d : Nat) (M : am_M) (hd : 1 ≤ d) (s k : Nat) (hs : s ≤ 12) (hk : k < s) (h2 : M.1 1 0 2 = nI s) (Q : am_P) (h : Q none (am_si (am_sv (M.1, cw_rot M.2.1 k s, M.2.2) 4 s (M.2.1 4 k)) 1 0 2 (nI s - 1))) : X d 37 0 [some (.inr (.inl (1, 0))), some (.inl (nI k)), none, none] [] M Q := by
  refine am_go hX [12] 40 ?_
  refine am_cc hd (cw_isScan hX _ _ _ _ (fun _ _ => ?_) (fun c => absurd ⟨nI_pos' (by omega), by rw [h2]; exact nI_lt hk (by omega)⟩ c))
  refine am_bne1 ⟨k, by show k < 13; omega, rfl, ?_⟩
  show X d 37 12 [some (.inr (.inl (1, 0))), some (.inl (nI k)), some (.inr (.inl (18, M.2.1 4 k))), some (.inl (nI k))] [] M Q
  have loop : ∀ t j : Nat, j + t = s → k ≤ j → X d 37 12 [some (.inr (.inl (1, 0))), some (.inl (nI k)), some (.inr (.inl (18, M.2.1 4 k))), some (.inl (nI j))] [] (M.1, cw_rot M.2.1 k j, M.2.2) Q := by
    intro t
    induction t with
    | zero =>
      intro j hj hkj
      have hj : j = s := by omega
      subst hj
      refine am_go hX [12] 40 ?_
      refine ⟨fun _ => ?_, fun (c : ¬ M.1 1 0 2 ≤ nI j) => ?_⟩
      · refine ⟨j, by show j < 13; omega, h2, ?_⟩
        rw [← h2] at h
        exact h
      · rw [h2] at c; exact absurd (nI_le (Nat.le_refl j) (by omega)) c
    | succ t ih =>
      intro j hj hkj
      refine am_go hX [12] 40 ?_
      refine ⟨fun (c : M.1 1 0 2 ≤ nI j) => ?_, fun _ => ?_⟩
      · rw [h2] at c; exact absurd c (nI_ge (by omega) (by omega))
      · refine ⟨j + 1, by show j + 1 < 13; omega, nI_1 j, j, by show j < 13; omega, rfl, ?_⟩
        have := ih (j + 1) (by omega) (by omega)
        rw [← nI_1] at this
        have e : (M.1, cw_rot M.2.1 k (j + 1), M.2.2) = am_sv (M.1, cw_rot M.2.1 k j, M.2.2) 4 j (cw_rot M.2.1 k j 4 (j + 1)) := by
          unfold am_sv cw_rot
          refine congrArg (fun z => (M.1, z, M.2.2)) ?_
          funext f i
          dsimp only
          by_cases hf : f = 4
          · subst hf
            repeat' split
            all_goals first | rfl | (exfalso; omega) | (have e : i = j := by omega
                                                        subst e; rfl)
          · simp [hf]
        rw [e] at this
        exact this
  have e0 : M = (M.1, cw_rot M.2.1 k k, M.2.2) := by
    refine congrArg (fun z => (M.1, z, M.2.2)) ?_
    funext f i
    unfold cw_rot
    rw [if_neg (by omega)]
  have := loop (s - k) k (by omega) (Nat.le_refl k)
  rw [← e0] at this
  exact this

theorem cw_drop {X : am_X} (hX : am_Cl X) (d : Nat) (M : am_M) (hd : 2 ≤ d) (s : Nat) (hs : s ≤ 12) (h2 : M.1 1 0 2 = nI s) (w : Int32) (Q : am_P) (h0 : ¬ (0 ≤ w ∧ w < M.1 1 0 2) → Q (some (.inl (-1))) M)
    (h : ∀ k, k < s → w = nI k → Q (some (.inl (nI (s - 1)))) (am_si (am_si (am_sv (M.1, cw_rot M.2.1 k s, M.2.2) 4 s (M.2.1 4 k)) 1 0 2 (nI (s - 1))) 1 0 0 1)) : X d 4 0 [some (.inr (.inl (0, 0))), some (.inl (w))] [] M Q := by
  refine am_go hX [] 60 ?_
  refine am_cc (by omega) (cw_isScan hX _ _ _ _ (fun w1 w2 => ?_) (fun c => am_bne0 (h0 c)))
  obtain ⟨k, hk, rfl⟩ : ∃ k, k < s ∧ w = nI k := by
    obtain ⟨k, hk, rfl⟩ := nI_of (Int32.not_lt.mpr w1)
    rw [h2] at w2
    exact ⟨k, (nI_ltI hk (by omega)).mp w2, rfl⟩
  refine am_bne1 (am_cc (by omega) (cw_remove hX _ _ (by omega) s k hs hk h2 _ ?_))
  refine ⟨Or.inr rfl, ?_⟩
  have := h k hk rfl
  have e : nI s - 1 = nI (s - 1) := by
    obtain ⟨t, rfl⟩ : ∃ t, s = t + 1 := ⟨s - 1, by omega⟩
    exact nI_pred t
  rw [e]
  exact this
theorem cw_kind {X : am_X} (hX : am_Cl X) (d : Nat) (M : am_M) (hd : 1 ≤ d) (m k : Int32) (Q : am_P) (h0 : ¬ (1 ≤ m ∧ m ≤ 9) → Q (some (.inl (-1))) M) (h1 : (1 ≤ m ∧ m ≤ 9) → ¬ (0 ≤ k ∧ k ≤ 2) → Q (some (.inl (-2))) M)
    (h : (1 ≤ m ∧ m ≤ 9) → (0 ≤ k ∧ k ≤ 2) → ∃ n, n < 10 ∧ m = nI n ∧ Q (some (.inl (M.1 7 0 n))) (am_si (am_si M 7 0 n k) 1 0 0 1)) : X d 5 0 [some (.inr (.inl (0, 0))), some (.inl (m)), some (.inl (k)), none] [] M Q := by
  refine am_go hX [] 60 ?_
  refine am_cc hd (cw_within hX _ _ _ _ _ _ (fun a1 a2 => ?_) (fun c => am_bne0 (h0 c)))
  refine am_bne1 (am_cc hd (cw_within hX _ _ _ _ _ _ (fun b1 b2 => ?_) (fun c => am_bne0 (h1 ⟨a1, a2⟩ c))))
  obtain ⟨n, hn, e, h'⟩ := h ⟨a1, a2⟩ ⟨b1, b2⟩
  exact am_bne1 ⟨n, hn, e, n, hn, e, Or.inr rfl, h'⟩
theorem cw_rule {X : am_X} (hX : am_Cl X) (d : Nat) (M : am_M) (hd : 1 ≤ d) (m k : Int32) (Q : am_P) (h0 : ¬ (0 ≤ m ∧ m ≤ 5) → Q (some (.inl (-1))) M) (h1 : ∀ n, n < 6 → m = nI n → ¬ (am_stT 59 n ≤ k ∧ k ≤ am_stT 60 n) → Q (some (.inl (-2))) M)
    (h : ∀ n, n < 6 → m = nI n → (am_stT 59 n ≤ k ∧ k ≤ am_stT 60 n) → Q (some (.inl (M.1 6 0 n))) (am_si (am_si M 6 0 n k) 1 0 0 1)) : X d 6 0 [some (.inr (.inl (0, 0))), some (.inl (m)), some (.inl (k)), none] [] M Q := by
  refine am_go hX [] 60 ?_
  refine am_cc hd (cw_within hX _ _ _ _ _ _ (fun a1 a2 => ?_) (fun c => am_bne0 (h0 c)))
  obtain ⟨n, hn, rfl⟩ : ∃ n, n < 6 ∧ m = nI n := by
    obtain ⟨n, hn, rfl⟩ := nI_of2 (M := 5) (n := 5) rfl (Int32.not_lt.mpr a1) a2
    exact ⟨n, by omega, rfl⟩
  refine am_bne1 ⟨n, hn, rfl, n, hn, rfl, am_cc hd (cw_within hX _ _ _ _ _ _ (fun b1 b2 => ?_) (fun c => am_bne0 (h1 n hn rfl c)))⟩
  exact am_bne1 ⟨n, hn, rfl, n, hn, rfl, Or.inr rfl, h n hn rfl ⟨b1, b2⟩⟩
