/-! the class's tracks -/
theorem cw_rightX {X : am_X} (hX : am_Cl X) (d : Nat) (M : am_M) (s e w : Nat) (hs : s < 13) (he : e < 4) (hw : w < 3) (h1 : M.1 18 (M.2.1 4 s) 0 = nI w) (Q : am_P) (h : Q (some (.inl (M.1 19 (M.2.1 4 s) e + M.1 2 0 w))) M) : X d 39 0 [some (.inr (.inl (1, 0))), some (.inl (nI s)), some (.inl (nI e))] [] M Q := by
  refine am_go hX [] 30 ?_
  exact ⟨s, hs, rfl, e, he, rfl, s, hs, rfl, w, hw, h1, h⟩
theorem cw_rightY {X : am_X} (hX : am_Cl X) (d : Nat) (M : am_M) (s e w : Nat) (hs : s < 13) (he : e < 4) (hw : w < 3) (h1 : M.1 18 (M.2.1 4 s) 0 = nI w) (Q : am_P) (h : Q (some (.inl (M.1 20 (M.2.1 4 s) e + M.1 3 0 w))) M) : X d 40 0 [some (.inr (.inl (1, 0))), some (.inl (nI s)), some (.inl (nI e))] [] M Q := by
  refine am_go hX [] 30 ?_
  exact ⟨s, hs, rfl, e, he, rfl, s, hs, rfl, w, hw, h1, h⟩
/-- how many times its pace, in ints -/
def ck_ah (k m l : Int32) : Int32 := if k = 1 then 0 else if k = 2 then l - m else m - l
theorem cw_ahead {X : am_X} (hX : am_Cl X) (d : Nat) (M : am_M) (t : Nat) (k m : Int32) (Q : am_P) (h : Q (some (.inl (ck_ah k m (M.1 27 t 4)))) M) : X d 80 0 [some (.inr (.inl (27, t))), some (.inl (k)), some (.inl (m))] [] M Q := by
  refine am_go hX [] 30 ?_
  refine ⟨fun (c : ¬ k = 1) => ⟨fun (c2 : ¬ k = 2) => ?_, fun (c2 : ¬ ¬ k = 2) => ?_⟩, fun (c : ¬ ¬ k = 1) => ?_⟩
  · rw [ck_ah, if_neg c, if_neg c2] at h; exact h
  · rw [ck_ah, if_neg c, if_pos (Classical.not_not.mp c2)] at h; exact h
  · rw [ck_ah, if_pos (Classical.not_not.mp c)] at h; exact h
theorem cw_foretoldX {X : am_X} (hX : am_Cl X) (d : Nat) (M : am_M) (hd : 1 ≤ d) (t : Nat) (k m : Int32) (Q : am_P) (h : Q (some (.inl (M.1 27 t 0 + ck_ah k m (M.1 27 t 4) * M.1 27 t 2))) M) : X d 78 0 [some (.inr (.inl (27, t))), some (.inl (k)), some (.inl (m))] [] M Q := by
  refine am_go hX [] 30 ?_
  exact am_cc hd (cw_ahead hX _ _ _ _ _ _ h)
theorem cw_foretoldY {X : am_X} (hX : am_Cl X) (d : Nat) (M : am_M) (hd : 1 ≤ d) (t : Nat) (k m : Int32) (Q : am_P) (h : Q (some (.inl (M.1 27 t 1 + ck_ah k m (M.1 27 t 4) * M.1 27 t 3))) M) : X d 79 0 [some (.inr (.inl (27, t))), some (.inl (k)), some (.inl (m))] [] M Q := by
  refine am_go hX [] 30 ?_
  exact am_cc hd (cw_ahead hX _ _ _ _ _ _ h)
theorem cw_mayBear {X : am_X} (hX : am_Cl X) (d : Nat) (M : am_M) (t : Nat) (k : Int32) (Q : am_P) (h1 : (M.1 27 t 7 = 0 ∨ k = 0 ∨ M.1 27 t 7 = k) → Q (some (.inl (1))) M) (h0 : ¬ (M.1 27 t 7 = 0 ∨ k = 0 ∨ M.1 27 t 7 = k) → Q (some (.inl (0))) M) : X d 77 0 [some (.inr (.inl (27, t))), some (.inl (k))] [] M Q := by
  refine am_go hX [] 30 ?_
  refine ⟨fun (c : M.1 27 t 7 = 0) => ⟨Or.inr rfl, h1 (Or.inl c)⟩, fun (c : ¬ M.1 27 t 7 = 0) => ⟨fun (c2 : k = 0) => ⟨Or.inr rfl, h1 (Or.inr (Or.inl c2))⟩, fun (c2 : ¬ k = 0) => ⟨fun (c3 : ¬ M.1 27 t 7 = k) => ⟨Or.inl rfl, h0 (fun q => q.elim c (fun q => q.elim c2 c3))⟩, fun (c3 : ¬ ¬ M.1 27 t 7 = k) => ⟨Or.inr rfl, h1 (Or.inr (Or.inr (Classical.not_not.mp c3)))⟩⟩⟩⟩
theorem cw_isConfirmed {X : am_X} (hX : am_Cl X) (d : Nat) (M : am_M) (t : Nat) (Q : am_P) (h1 : 2 ≤ M.1 27 t 5 → Q (some (.inl (1))) M) (h0 : ¬ 2 ≤ M.1 27 t 5 → Q (some (.inl (0))) M) : X d 76 0 [some (.inr (.inl (27, t)))] [] M Q := by
  refine am_go hX [] 30 ?_
  refine ⟨fun (c : M.1 27 t 5 < 2) => ⟨Or.inl rfl, h0 (Int32.not_le.mpr c)⟩, fun (c : ¬ M.1 27 t 5 < 2) => ⟨Or.inr rfl, h1 (Int32.not_lt.mp c)⟩⟩
/-- a row of a track's fields put in its place -/
def ck_row (M M' : am_M) (t : Nat) (r : Nat → Int32) : Prop := am_fr [27] M M' ∧ ∀ t' j, M'.1 27 t' j = if t' = t ∧ j < 9 then r j else M.1 27 t' j
theorem cw_tcopy {X : am_X} (hX : am_Cl X) (d : Nat) (M : am_M) (a b : Nat) (hb : M.1 27 a 8 = 0 ∨ M.1 27 a 8 = 1) (Q : am_P) (h : ∀ M', ck_row M M' b (fun j => M.1 27 a j) → Q none M') : X d 72 0 [some (.inr (.inl (27, b))), some (.inr (.inl (27, a)))] [] M Q := by
  refine am_go hX [] 60 ?_
  refine ⟨by simpa [am_si_at] using hb, h _ ⟨?_, fun t' j => ?_⟩⟩
  · exact am_fr_si (am_fr_si (am_fr_si (am_fr_si (am_fr_si (am_fr_si (am_fr_si (am_fr_si (am_fr_si (am_fr_rf _ M) (by simp)) (by simp)) (by simp)) (by simp)) (by simp)) (by simp)) (by simp)) (by simp)) (by simp)
  · by_cases ht : t' = b
    · subst ht
      match j with
      | 0 => simp [am_si_at]
      | 1 => simp [am_si_at]
      | 2 => simp [am_si_at]
      | 3 => simp [am_si_at]
      | 4 => simp [am_si_at]
      | 5 => simp [am_si_at]
      | 6 => simp [am_si_at]
      | 7 => simp [am_si_at]
      | 8 => simp [am_si_at]
      | j + 9 => simp [show ¬ j + 9 < 9 by omega, am_si_at]
    · simp [am_si_at, ht]
theorem cw_begin {X : am_X} (hX : am_Cl X) (d : Nat) (M : am_M) (t : Nat) (x y m k : Int32) (Q : am_P) (h : ∀ M', ck_row M M' t (fun j => match j with
    | 0 => x | 1 => y | 4 => m | 5 => 1 | 7 => k | _ => 0) → Q none M') : X d 73 0 [some (.inr (.inl (27, t))), some (.inl (x)), some (.inl (y)), some (.inl (m)), some (.inl (k))] [] M Q := by
  refine am_go hX [] 60 ?_
  refine ⟨Or.inl rfl, h _ ⟨?_, fun t' j => ?_⟩⟩
  · exact am_fr_si (am_fr_si (am_fr_si (am_fr_si (am_fr_si (am_fr_si (am_fr_si (am_fr_si (am_fr_si (am_fr_rf _ M) (by simp)) (by simp)) (by simp)) (by simp)) (by simp)) (by simp)) (by simp)) (by simp)) (by simp)
  · by_cases ht : t' = t
    · subst ht
      match j with
      | 0 => simp [am_si_at]
      | 1 => simp [am_si_at]
      | 2 => simp [am_si_at]
      | 3 => simp [am_si_at]
      | 4 => simp [am_si_at]
      | 5 => simp [am_si_at]
      | 6 => simp [am_si_at]
      | 7 => simp [am_si_at]
      | 8 => simp [am_si_at]
      | j + 9 => simp [show ¬ j + 9 < 9 by omega, am_si_at]
    · simp [am_si_at, ht]
/-- the fields of a track behind a hit -/
def ck_hit (r : Nat → Int32) (x y m k : Int32) : Nat → Int32 := fun j => match j with
  | 0 => x
  | 1 => y
  | 2 => if 0 < m - r 4 then lb_fd (x - r 0) (m - r 4) else r 2
  | 3 => if 0 < m - r 4 then lb_fd (y - r 1) (m - r 4) else r 3
  | 4 => m
  | 5 => r 5 + 1
  | 6 => 0
  | 7 => if r 7 = 0 then k else r 7
  | j + 8 => r (j + 8)
theorem cw_hit {X : am_X} (hX : am_Cl X) (d : Nat) (M : am_M) (hd : 1 ≤ d) (t : Nat) (x y m k : Int32) (Q : am_P) (h : ∀ M', ck_row M M' t (ck_hit (M.1 27 t) x y m k) → Q none M') : X d 74 0 [some (.inr (.inl (27, t))), some (.inl (x)), some (.inl (y)), some (.inl (m)), some (.inl (k)), none] [] M Q := by
  have tail : ∀ M0 : am_M, am_fr [27] M M0 → (∀ t' j, M0.1 27 t' j = if t' = t ∧ j = 2 then ck_hit (M.1 27 t) x y m k 2 else if t' = t ∧ j = 3 then ck_hit (M.1 27 t) x y m k 3 else M.1 27 t' j) → X d 74 23 [some (.inr (.inl (27, t))), some (.inl (x)), some (.inl (y)), some (.inl (m)), some (.inl (k)), some (.inl (m - M.1 27 t 4))] [] M0 Q := by
    intro M0 fr h0
    refine am_go hX [] 60 ?_
    have h7 : M0.1 27 t 7 = M.1 27 t 7 := by rw [h0]; simp
    have h5 : M0.1 27 t 5 = M.1 27 t 5 := by rw [h0]; simp
    refine ⟨fun c => ?_, fun c => ?_⟩
    · have c : ¬ M.1 27 t 7 = 0 := by
        have c : ¬ _ = (0 : Int32) := c
        simpa [am_si_at, h7] using c
      refine h _ ⟨am_fr_si (am_fr_si (am_fr_si (am_fr_si (am_fr_si fr (by simp)) (by simp)) (by simp)) (by simp)) (by simp), fun t' j => ?_⟩
      by_cases ht : t' = t
      · subst ht
        match j with
        | 0 => simp [am_si_at, ck_hit]
        | 1 => simp [am_si_at, ck_hit]
        | 2 => simp [am_si_at, h0]
        | 3 => simp [am_si_at, h0]
        | 4 => simp [am_si_at, ck_hit]
        | 5 => simp [am_si_at, ck_hit, h5]
        | 6 => simp [am_si_at, ck_hit]
        | 7 => simp [am_si_at, ck_hit, h7, c]
        | 8 => simp [am_si_at, ck_hit, h0]
        | j + 9 => simp [show ¬ j + 9 < 9 by omega, am_si_at, h0]
      · simp [am_si_at, ht, h0]
    · have c : M.1 27 t 7 = 0 := by
        have c : ¬ ¬ _ = (0 : Int32) := c
        simpa [am_si_at, h7] using c
      refine h _ ⟨am_fr_si (am_fr_si (am_fr_si (am_fr_si (am_fr_si (am_fr_si fr (by simp)) (by simp)) (by simp)) (by simp)) (by simp)) (by simp), fun t' j => ?_⟩
      by_cases ht : t' = t
      · subst ht
        match j with
        | 0 => simp [am_si_at, ck_hit]
        | 1 => simp [am_si_at, ck_hit]
        | 2 => simp [am_si_at, h0]
        | 3 => simp [am_si_at, h0]
        | 4 => simp [am_si_at, ck_hit]
        | 5 => simp [am_si_at, ck_hit, h5]
        | 6 => simp [am_si_at, ck_hit]
        | 7 => simp [am_si_at, ck_hit, c]
        | 8 => simp [am_si_at, ck_hit, h0]
        | j + 9 => simp [show ¬ j + 9 < 9 by omega, am_si_at, h0]
      · simp [am_si_at, ht, h0]
  refine am_go hX [23] 60 ?_
  refine ⟨fun (c : m - M.1 27 t 4 ≤ 0) => ?_, fun (c : ¬ m - M.1 27 t 4 ≤ 0) => ?_⟩
  · refine tail M (am_fr_rf _ M) (fun t' j => ?_)
    have c' : ¬ 0 < m - M.1 27 t 4 := Int32.not_lt.mpr c
    simp only [ck_hit, if_neg c']
    split
    · rename_i q; rw [q.1, q.2]
    · split
      · rename_i q; rw [q.1, q.2]
      · rfl
  · have c' : 0 < m - M.1 27 t 4 := Int32.not_le.mp c
    have hne : ¬ m - M.1 27 t 4 = 0 := fun z => by rw [z] at c'; exact absurd c' (by decide)
    refine am_cc hd (lb_floorDiv hX _ _ _ _ hne _ ?_)
    refine am_cc hd (lb_floorDiv hX _ _ _ _ hne _ ?_)
    refine (fun (z : X d 74 23 [some (.inr (.inl (27, t))), some (.inl (x)), some (.inl (y)), some (.inl (m)), some (.inl (k)), some (.inl (m - M.1 27 t 4))] [] (am_si (am_si M 27 t 2 (lb_fd (x - M.1 27 t 0) (m - M.1 27 t 4))) 27 t 3 (lb_fd (y - (am_si M 27 t 2 (lb_fd (x - M.1 27 t 0) (m - M.1 27 t 4))).1 27 t 1) (m - M.1 27 t 4))) Q) => z) ?_
    refine tail _ (am_fr_si (am_fr_si (am_fr_rf _ M) (by simp)) (by simp)) (fun t' j => ?_)
    simp only [ck_hit, if_pos c']
    by_cases ht : t' = t
    · subst ht
      by_cases h2 : j = 2
      · subst h2; simp [am_si_at]
      · by_cases h3 : j = 3
        · subst h3; simp [am_si_at]
        · simp [am_si_at, h2, h3]
    · simp [am_si_at, ht]
def ck_miss (r : Nat → Int32) (b : Int32) : Nat → Int32 := if r 8 = 0 then fun j => match j with
    | 6 => r 6 + 1
    | 8 => if b ≤ r 6 + 1 then 1 else 0
    | j => r j
  else r
theorem cw_miss {X : am_X} (hX : am_Cl X) (d : Nat) (M : am_M) (t : Nat) (b : Int32) (Q : am_P) (h : ∀ M', ck_row M M' t (ck_miss (M.1 27 t) b) → Q none M') : X d 75 0 [some (.inr (.inl (27, t))), some (.inl (b))] [] M Q := by
  refine am_go hX [] 60 ?_
  refine ⟨fun (c : ¬ M.1 27 t 8 = 0) => ?_, fun (c : ¬ ¬ M.1 27 t 8 = 0) => ?_⟩
  · refine h _ ⟨am_fr_rf _ M, fun t' j => ?_⟩
    simp only [ck_miss, if_neg c]
    split
    · rename_i q; rw [q.1]
    · rfl
  · have c := Classical.not_not.mp c
    have hrow : ∀ v : Int32, v = (if b ≤ M.1 27 t 6 + 1 then 1 else 0) → ck_row M (am_si (am_si M 27 t 6 (M.1 27 t 6 + 1)) 27 t 8 v) t (ck_miss (M.1 27 t) b) := by
      intro v hv
      refine ⟨am_fr_si (am_fr_si (am_fr_rf _ M) (by simp)) (by simp), fun t' j => ?_⟩
      simp only [ck_miss, if_pos c]
      by_cases ht : t' = t
      · subst ht
        match j with
        | 0 => simp [am_si_at]
        | 1 => simp [am_si_at]
        | 2 => simp [am_si_at]
        | 3 => simp [am_si_at]
        | 4 => simp [am_si_at]
        | 5 => simp [am_si_at]
        | 6 => simp [am_si_at]
        | 7 => simp [am_si_at]
        | 8 => simp [am_si_at, hv]
        | j + 9 => simp [show ¬ j + 9 < 9 by omega, am_si_at]
      · simp [am_si_at, ht]
    have er : (am_si M 27 t 6 (M.1 27 t 6 + 1)).1 27 t 6 = M.1 27 t 6 + 1 := by simp [am_si_at]
    refine ⟨fun (c2 : (am_si M 27 t 6 (M.1 27 t 6 + 1)).1 27 t 6 < b) => ⟨Or.inl rfl, h _ (hrow 0 ?_)⟩, fun (c2 : ¬ (am_si M 27 t 6 (M.1 27 t 6 + 1)).1 27 t 6 < b) => ⟨Or.inr rfl, h _ (hrow 1 ?_)⟩⟩
    · rw [er] at c2; rw [if_neg (Int32.not_le.mpr c2)]
    · rw [er] at c2; rw [if_pos (Int32.not_lt.mp c2)]
