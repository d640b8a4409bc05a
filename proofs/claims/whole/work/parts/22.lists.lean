/-! lists by am_nth; the K cheapest -/
theorem am_nth_app {α : Type} : ∀ (l1 l2 : List α) (i : Nat) (d : α), am_nth (l1 ++ l2) i d = if i < l1.length then am_nth l1 i d else am_nth l2 (i - l1.length) d
  | [], l2, i, d => by simp
  | a :: l1, l2, 0, d => by simp [am_nth]
  | a :: l1, l2, i + 1, d => by
    show am_nth (l1 ++ l2) i d = _
    rw [am_nth_app l1 l2 i d]
    simp [am_nth]
theorem am_nth_take {α : Type} : ∀ (l : List α) (n i : Nat) (d : α), am_nth (l.take n) i d = if i < n then am_nth l i d else d
  | [], n, i, d => by simp [am_nth]
  | a :: l, 0, i, d => by simp [am_nth]
  | a :: l, n + 1, 0, d => by simp [am_nth]
  | a :: l, n + 1, i + 1, d => by
    show am_nth (l.take n) i d = _
    rw [am_nth_take l n i d]
    simp [am_nth]
theorem am_nth_drop {α : Type} : ∀ (l : List α) (n i : Nat) (d : α), am_nth (l.drop n) i d = am_nth l (n + i) d
  | [], n, i, d => by simp [am_nth]
  | a :: l, 0, i, d => by simp
  | a :: l, n + 1, i, d => by
    rw [show n + 1 + i = (n + i) + 1 by omega]
    exact am_nth_drop l n i d
theorem am_nth_out {α : Type} {l : List α} {k : Nat} {d : α} (h : l.length ≤ k) : am_nth l k d = d := by
  induction l generalizing k with
  | nil => rfl
  | cons a l ih => cases k with
    | zero => simp at h
    | succ k => exact ih (by simp at h; omega)
theorem am_nth_map {α β : Type} (f : α → β) : ∀ (l : List α) (i : Nat) (d : α), am_nth (l.map f) i (f d) = f (am_nth l i d)
  | [], i, d => by simp [am_nth]
  | a :: l, 0, d => rfl
  | a :: l, i + 1, d => am_nth_map f l i d
theorem am_nth_ext {α : Type} {d : α} : ∀ {l1 l2 : List α}, l1.length = l2.length → (∀ i, i < l1.length → am_nth l1 i d = am_nth l2 i d) → l1 = l2
  | [], [], _, _ => rfl
  | [], b :: l2, h, _ => by simp at h
  | a :: l1, [], h, _ => by simp at h
  | a :: l1, b :: l2, h, q => by
    have h0 : a = b := q 0 (by simp)
    rw [h0, am_nth_ext (l1 := l1) (l2 := l2) (by simpa using h) (fun i hi => q (i + 1) (by simp; omega))]
theorem am_nth_in {α : Type} {d : α} : ∀ {l : List α} {i : Nat}, i < l.length → am_nth l i d ∈ l
  | [], i, h => by simp at h
  | a :: l, 0, h => by simp [am_nth]
  | a :: l, i + 1, h => List.mem_cons_of_mem _ (am_nth_in (by simpa using h))
def jn_0 : jn := (0, 0, [])
def jn_srt (l : List jn) : Prop := ∀ i j, i ≤ j → j < l.length → (am_nth l i jn_0).1 ≤ (am_nth l j jn_0).1
theorem jn_put_at (x : jn) : ∀ (l : List jn) (a : Nat), a ≤ l.length → (∀ i, i < a → (am_nth l i jn_0).1 ≤ x.1) → (a < l.length → x.1 < (am_nth l a jn_0).1) → jn_put x l = l.take a ++ x :: l.drop a
  | [], a, h, _, _ => by simp [jn_put]
  | y :: l, 0, _, _, h2 => by
    have h2 : x.1 < y.1 := h2 (by simp)
    simp only [jn_put, if_neg (Nat.not_le.mpr h2)]; simp
  | y :: l, a + 1, h, h1, h2 => by
    have h0 : y.1 ≤ x.1 := h1 0 (by omega)
    simp only [jn_put, if_pos h0]
    rw [jn_put_at x l a (by simpa using h) (fun i hi => h1 (i + 1) (by omega)) (fun q => h2 (by simpa using q))]
    simp
theorem jn_off_at {K : Nat} {l : List jn} {x : jn} {a : Nat} (ha : a ≤ l.length) (h1 : ∀ i, i < a → (am_nth l i jn_0).1 ≤ x.1) (h2 : a < l.length → x.1 < (am_nth l a jn_0).1) (hK : a < K) (hl : l.length ≤ K) :
    (jn_off K l x).length = (if l.length < K then l.length + 1 else K) ∧ ∀ i, i < (jn_off K l x).length → am_nth (jn_off K l x) i jn_0 = if i < a then am_nth l i jn_0 else if i = a then x else am_nth l (i - 1) jn_0 := by
  unfold jn_off
  rw [jn_put_at x l a ha h1 h2]
  have hl1 : ((l.take a ++ x :: l.drop a).take K).length = (if l.length < K then l.length + 1 else K) := by
    simp only [List.length_take, List.length_append, List.length_cons, List.length_drop]
    split <;> omega
  refine ⟨hl1, fun i hi => ?_⟩
  have hiK : i < K := by rw [hl1] at hi; split at hi <;> omega
  rw [am_nth_take, if_pos hiK, am_nth_app, List.length_take, Nat.min_eq_left ha]
  by_cases hia : i < a
  · rw [if_pos hia, if_pos hia, am_nth_take, if_pos hia]
  · rw [if_neg hia, if_neg hia]
    by_cases hie : i = a
    · subst hie; simp [am_nth]
    · rw [if_neg hie]
      obtain ⟨j, rfl⟩ : ∃ j, i = a + (j + 1) := ⟨i - a - 1, by omega⟩
      rw [show a + (j + 1) - a = j + 1 by omega]
      show am_nth (l.drop a) j jn_0 = _
      rw [am_nth_drop]; congr 1
theorem jn_off_srt {K : Nat} {l : List jn} {x : jn} {a : Nat} (hs : jn_srt l) (ha : a ≤ l.length) (h1 : ∀ i, i < a → (am_nth l i jn_0).1 ≤ x.1) (h2 : a < l.length → x.1 < (am_nth l a jn_0).1) (hK : a < K) (hl : l.length ≤ K) : jn_srt (jn_off K l x) := by
  obtain ⟨hl1, he⟩ := jn_off_at ha h1 h2 hK hl
  intro i j hij hj
  have hjl : j ≤ l.length := by rw [hl1] at hj; split at hj <;> omega
  rw [he i (by omega), he j hj]
  by_cases hja : j < a
  · rw [if_pos (by omega), if_pos hja]; exact hs i j hij (by omega)
  · rw [if_neg hja]
    by_cases hje : j = a
    · subst hje; rw [if_pos rfl]
      by_cases hia : i < j
      · rw [if_pos hia]; exact h1 i hia
      · rw [if_neg hia, if_pos (by omega)]; exact Nat.le_refl _
    · rw [if_neg hje]
      by_cases hia : i < a
      · rw [if_pos hia]; exact hs i (j - 1) (by omega) (by omega)
      · rw [if_neg hia]
        by_cases hie : i = a
        · rw [if_pos hie]
          have := h2 (by omega)
          have := hs a (j - 1) (by omega) (by omega)
          omega
        · rw [if_neg hie]; exact hs (i - 1) (j - 1) (by omega) (by omega)
/-- what isn't cheaper than the last of a full list isn't taken -/
theorem jn_off_no {K : Nat} {l : List jn} {x : jn} (hs : jn_srt l) (hK : 1 ≤ K) (hl : l.length = K) (h : (am_nth l (K - 1) jn_0).1 ≤ x.1) : jn_off K l x = l := by
  unfold jn_off
  rw [jn_put_at x l l.length (Nat.le_refl _) (fun i hi => Nat.le_trans (hs i (K - 1) (by omega) (by omega)) h) (fun q => by omega)]
  rw [← hl]; simp
theorem jn_fold_no {K : Nat} {l : List jn} (hs : jn_srt l) (hK : 1 ≤ K) (hl : l.length = K) : ∀ (xs : List jn), (∀ x ∈ xs, (am_nth l (K - 1) jn_0).1 ≤ x.1) → xs.foldl (jn_off K) l = l
  | [], _ => rfl
  | x :: xs, h => by
    rw [List.foldl_cons, jn_off_no hs hK hl (h x List.mem_cons_self)]
    exact jn_fold_no hs hK hl xs (fun y hy => h y (List.mem_cons_of_mem _ hy))
/-- where a new one goes -/
theorem jn_pos (l : List jn) (c : Nat) (hs : jn_srt l) : ∃ a, a ≤ l.length ∧ (∀ i, i < a → (am_nth l i jn_0).1 ≤ c) ∧ (a < l.length → c < (am_nth l a jn_0).1) := by
  have key : ∀ n, n ≤ l.length → (∀ i, i < n → (am_nth l i jn_0).1 ≤ c) ∨ ∃ a, a < n ∧ (∀ i, i < a → (am_nth l i jn_0).1 ≤ c) ∧ c < (am_nth l a jn_0).1 := by
    intro n
    induction n with
    | zero => exact fun _ => Or.inl (fun i hi => by omega)
    | succ n ih =>
      intro hn
      rcases ih (by omega) with h | ⟨a, h1, h2, h3⟩
      · rcases Nat.lt_or_ge c (am_nth l n jn_0).1 with q | q
        · exact Or.inr ⟨n, by omega, h, q⟩
        · refine Or.inl (fun i hi => ?_)
          rcases Nat.lt_or_ge i n with z | z
          · exact h i z
          · have : i = n := by omega
            subst this; exact q
      · exact Or.inr ⟨a, by omega, h2, h3⟩
  rcases key l.length (Nat.le_refl _) with h | ⟨a, h1, h2, h3⟩
  · exact ⟨l.length, Nat.le_refl _, h, fun q => by omega⟩
  · exact ⟨a, by omega, h2, fun _ => h3⟩
