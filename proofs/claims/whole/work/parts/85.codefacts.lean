theorem am_okL_at {y : Nat} : ∀ {l : List am_E} {k : Nat}, am_okL y k l = true → ∀ {i : Nat} {e : am_E}, am_nth (l.map some) i none = some e → am_okE y (k + i) e = true ∧ (am_nth l i (0, .nop, 0, 0, 0, [])) = e
  | [], k, h, i, e, q => by cases i <;> simp [am_nth] at q
  | a :: l, k, h, 0, e, q => by
    simp only [am_okL, Bool.and_eq_true] at h
    simp only [List.map_cons, am_nth, Option.some.injEq] at q
    subst q; exact ⟨h.1, rfl⟩
  | a :: l, k, h, i + 1, e, q => by
    simp only [am_okL, Bool.and_eq_true] at h
    simp only [List.map_cons, am_nth] at q
    have := am_okL_at h.2 q
    rw [show k + 1 + i = k + (i + 1) by omega] at this
    exact this
theorem am_nth_some {l : List am_E} {i : Nat} {e : am_E} (q : am_nth (l.map some) i none = some e) : i < l.length ∧ am_nth l i (0, .nop, 0, 0, 0, []) = e := by
  induction l generalizing i with
  | nil => cases i <;> simp [am_nth] at q
  | cons a l ih => cases i with
    | zero => simp only [List.map_cons, am_nth, Option.some.injEq] at q; exact ⟨by simp, q⟩
    | succ i => simp only [List.map_cons, am_nth] at q; have := ih q; exact ⟨by simp; omega, this.2⟩
/-- what is known of the row at an index -/
theorem am_row {y i : Nat} {e : am_E} (hy : y < 138) (h : am_at y i = some e) : am_okE y i e = true ∧ am_pc y i = e.1 := by
  unfold am_at at h
  have h2 := am_nth_some h
  refine ⟨?_, by unfold am_pc; rw [h2.2]⟩
  rcases Nat.lt_or_ge y 137 with q | q
  · have := (am_okL_at (am_okA y q) h).1
    rw [Nat.zero_add] at this; exact this
  · have : y = 137 := by omega
    subst this
    have hl : (am_cd 137).length = 671 := by decide +kernel
    have h3 : i < 671 := by rw [← hl]; exact h2.1
    have h4 := am_okw i h3
    have h5 : am_nth am_c137 i (0, .nop, 0, 0, 0, []) = e := h2.2
    rw [h5] at h4; exact h4
theorem am_row2 {y i p a b : Nat} {ins : Instr} {z : Int32} {tg : List Nat} (hy : y < 138) (h : am_at y i = some (p, ins, a, b, z, tg)) (hs : am_isSw ins = false) : decode (am_bt y) (am_pc y i) = .ok (ins, am_il ins) ∧ am_okI y i (am_pc y i) ins a b z tg = true := by
  obtain ⟨h1, h2⟩ := am_row hy h
  simp only [am_okE, Bool.and_eq_true] at h1
  dsimp only at h2
  rw [h2]
  obtain ⟨h1, h3⟩ := h1
  refine ⟨?_, h3⟩
  cases hd : decode (am_bt y) p with
  | error er => rw [hd] at h1; simp at h1
  | ok q =>
    obtain ⟨ins', n⟩ := q
    rw [hd] at h1
    simp only [Bool.and_eq_true, Bool.or_eq_true, decide_eq_true_eq, hs] at h1
    rw [h1.1, Nat.eq_of_beq_eq_true (h1.2.resolve_left (by decide))]
theorem am_row3 {y i p a b : Nat} {dd lo hi : Int} {offs : Array Int} {z : Int32} {tg : List Nat} (hy : y < 138) (h : am_at y i = some (p, .tableswitch dd lo hi offs, a, b, z, tg)) : ∃ n, decode (am_bt y) (am_pc y i) = .ok (.tableswitch dd lo hi offs, n) ∧ am_okI y i (am_pc y i) (.tableswitch dd lo hi offs) a b z tg = true := by
  obtain ⟨h1, h2⟩ := am_row hy h
  simp only [am_okE, Bool.and_eq_true] at h1
  dsimp only at h2
  rw [h2]
  obtain ⟨h1, h3⟩ := h1
  cases hd : decode (am_bt y) p with
  | error er => rw [hd] at h1; simp at h1
  | ok q =>
    obtain ⟨ins', n⟩ := q
    rw [hd] at h1
    simp only [Bool.and_eq_true, decide_eq_true_eq] at h1
    exact ⟨n, by rw [h1.1], h3⟩
