/-! the abstract machine's memory as a world of cells; its locals as the machine's -/
def am_rv (ν : Nat → Nat → Nat) : am_V → Value
  | .inl x => .int x
  | .inr (.inl q) => .ref (ν q.1 q.2)
  | .inr (.inr x) => .long x
def am_okV : am_V → Prop
  | .inr (.inl q) => q.2 < am_cnt q.1
  | _ => True
def am_okM (M : am_M) : Prop := (∀ k, k < 13 → M.2.1 4 k < 13) ∧ (∀ k, k < 4 → M.2.1 12 k < 4) ∧ M.2.1 8 0 < 2 ∧ M.2.1 8 2 < 2
def am_nms : List (Nat × Nat) := (List.range 59).flatMap fun f => (List.range (am_cnt f)).map fun i => (f, i)
def am_aT (dA : Nat → ClassId) : List (ClassId × FieldType) := [(dA 0, .int), (dA 1, .boolean), (dA 2, .object "WhoIsWho$Scan"), (dA 3, .object "WhoIsWho$Join"), (dA 4, .object "WhoIsWho$World"), (dA 5, .object "WhoIsWho$Track")]
def am_cell (ν : Nat → Nat → Nat) (dA : Nat → ClassId) (M : am_M) (f i : Nat) : va_E := match am_kind f with
  | 0 => .inr (am_cls f, (List.range (am_len0 f)).map fun k => am_rv ν (am_fv M (am_cls f) f i k))
  | 1 => .inl (dA 0, am_len0 f, .inl (M.1 f i))
  | 2 => .inl (dA 1, am_len0 f, .inl (M.1 f i))
  | _ => .inl (dA (am_cls f - 4), am_len0 f, .inr (.inr (.inr (.inr fun k => some (ν (am_rfA f) (am_riA M f i k))))))
def am_ws (ν : Nat → Nat → Nat) (dA : Nat → ClassId) (M : am_M) : va_W := am_nms.map fun q => (ν q.1 q.2, am_cell ν dA M q.1 q.2)
theorem am_nd : am_nms.Nodup := by decide +kernel
theorem am_in {f i : Nat} (hf : f < 59) (hi : i < am_cnt f) : ∃ q : Nat, am_nms[q]? = some (f, i) := by
  have : (f, i) ∈ am_nms := by
    unfold am_nms
    rw [List.mem_flatMap]
    exact ⟨f, List.mem_range.mpr hf, List.mem_map.mpr ⟨i, List.mem_range.mpr hi, rfl⟩⟩
  exact List.getElem?_of_mem this
theorem am_nms_ok {f i : Nat} (h : (f, i) ∈ am_nms) : f < 59 ∧ i < am_cnt f := by
  unfold am_nms at h
  rw [List.mem_flatMap] at h
  obtain ⟨f', h1, h2⟩ := h
  obtain ⟨i', h3, h4⟩ := List.mem_map.mp h2
  cases h4
  exact ⟨List.mem_range.mp h1, List.mem_range.mp h3⟩
theorem am_ws_at {ν : Nat → Nat → Nat} {dA : Nat → ClassId} {M : am_M} {f i q : Nat} (h : am_nms[q]? = some (f, i)) : (am_ws ν dA M)[q]? = some (ν f i, am_cell ν dA M f i) := by
  unfold am_ws; rw [List.getElem?_map, h]; rfl
theorem am_ws_set {ν : Nat → Nat → Nat} {dA : Nat → ClassId} {M M' : am_M} {f i q : Nat} {e : va_E} (h : am_nms[q]? = some (f, i)) (he : am_cell ν dA M' f i = e) (ho : ∀ f' i', (f', i') ∈ am_nms → (f', i') ≠ (f, i) → am_cell ν dA M' f' i' = am_cell ν dA M f' i') :
    (am_ws ν dA M).set q (ν f i, e) = am_ws ν dA M' := by
  apply List.ext_getElem?
  intro k
  by_cases hk : k = q
  · subst hk
    have hl : k < (am_ws ν dA M).length := by
      unfold am_ws; rw [List.length_map]; exact (List.getElem?_eq_some_iff.mp h).1
    rw [List.getElem?_set_self hl, am_ws_at h, he]
  · rw [List.getElem?_set_ne (Ne.symm hk)]
    unfold am_ws
    rw [List.getElem?_map, List.getElem?_map]
    cases hq : am_nms[k]? with
    | none => rfl
    | some p =>
      obtain ⟨f', i'⟩ := p
      have hne : (f', i') ≠ (f, i) := by
        intro z
        rw [z] at hq
        obtain ⟨l1, e1⟩ := List.getElem?_eq_some_iff.mp hq
        obtain ⟨l2, e2⟩ := List.getElem?_eq_some_iff.mp h
        have hnd := List.pairwise_iff_getElem.mp am_nd
        rcases Nat.lt_trichotomy k q with g | g | g
        · exact hnd k q l1 l2 g (e1.trans e2.symm)
        · exact hk g
        · exact hnd q k l2 l1 g (e2.trans e1.symm)
      show some (ν f' i', am_cell ν dA M f' i') = some (ν f' i', am_cell ν dA M' f' i')
      rw [ho f' i' (List.mem_of_getElem? hq) hne]
/-- the constant rows, the script -/
def am_St (ν : Nat → Nat → Nat) (A : Nat → Prop) (M : am_M) (U : State) (H0 : Heap) : Prop :=
  (∀ f, f = 59 ∨ f = 60 → va_Z "WhoIsWho" (am_rnm f) "[I" (.ref (ν f 0)) A U H0 ∧ va_T .int (ν f 0) 6 (fun j => .int (am_stT f j)) A U H0 ∧ ν f 0 < H0.size ∧ ¬ A (ν f 0)) ∧
  va_X (ν 61 0) (am_len M 61) (M.1 61 0) U H0 ∧ ν 61 0 < H0.size ∧ ¬ A (ν 61 0)
def am_Wd (ν : Nat → Nat → Nat) (dA : Nat → ClassId) (D : va_G) (A : Nat → Prop) (s : State) (H : Heap) (locs : List Loc) (M : am_M) : Prop :=
  va_K D am_cl (am_aT dA) s ∧ va_P D am_cl (am_ws ν dA M) H ∧ va_D A (am_ws ν dA M) ∧ va_S A s.heap H locs ∧ am_okM M ∧ am_St ν A M s s.heap
def am_lv (ν : Nat → Nat → Nat) (n : Nat) (ls : List (Option am_V)) (lsc : Array Slot) : Prop := ls.length = n ∧ lsc.size = n ∧ lv_wf lsc ∧ ∀ k v, am_nth ls k none = some v → lsc[k]? = some (.val (am_rv ν v))
theorem am_nth_lt {α : Type} {l : List (Option α)} {k : Nat} {v : α} (h : am_nth l k none = some v) : k < l.length := by
  induction l generalizing k with
  | nil => simp [am_nth] at h
  | cons a l ih => cases k with
    | zero => simp
    | succ k => simp only [am_nth] at h; have := ih h; simp; omega
def am_prs (ν : Nat → Nat → Nat) : Nat → List (Option am_V) → List (Nat × Value)
  | _, [] => []
  | k, some v :: l => (k, am_rv ν v) :: am_prs ν (k + 1) l
  | k, none :: l => am_prs ν (k + 1) l
theorem am_prs_of {ν : Nat → Nat → Nat} : ∀ {l : List (Option am_V)} {j k : Nat} {v : am_V}, am_nth l k none = some v → (j + k, am_rv ν v) ∈ am_prs ν j l
  | [], j, k, v, h => by simp [am_nth] at h
  | some w :: l, j, 0, v, h => by
    simp only [am_nth, Option.some.injEq] at h; subst h; exact List.mem_cons_self
  | none :: l, j, 0, v, h => by simp [am_nth] at h
  | some w :: l, j, k + 1, v, h => by
    simp only [am_nth] at h
    have := am_prs_of (ν := ν) (j := j + 1) h
    rw [show j + 1 + k = j + (k + 1) by omega] at this
    exact List.mem_cons_of_mem _ this
  | none :: l, j, k + 1, v, h => by
    simp only [am_nth] at h
    have := am_prs_of (ν := ν) (j := j + 1) h
    rw [show j + 1 + k = j + (k + 1) by omega] at this
    exact this
theorem am_prs_at {ν : Nat → Nat → Nat} : ∀ {l : List (Option am_V)} {j : Nat} {q : Nat × Value}, q ∈ am_prs ν j l → ∃ k v, am_nth l k none = some v ∧ q = (j + k, am_rv ν v)
  | [], j, q, h => by simp [am_prs] at h
  | some w :: l, j, q, h => by
    rcases List.mem_cons.mp h with h | h
    · exact ⟨0, w, rfl, h⟩
    · obtain ⟨k, v, h1, h2⟩ := am_prs_at h
      exact ⟨k + 1, v, h1, by rw [h2]; congr 1; omega⟩
  | none :: l, j, q, h => by
    obtain ⟨k, v, h1, h2⟩ := am_prs_at (show q ∈ am_prs ν (j + 1) l from h)
    exact ⟨k + 1, v, h1, by rw [h2]; congr 1; omega⟩
theorem am_lv_has {ν : Nat → Nat → Nat} {n : Nat} {ls : List (Option am_V)} {lsc : Array Slot} (h : am_lv ν n ls lsc) : lv_has lsc n (am_prs ν 0 ls) := by
  refine ⟨h.2.1, h.2.2.1, fun q hq => ?_⟩
  obtain ⟨k, v, h1, h2⟩ := am_prs_at hq
  rw [h2, Nat.zero_add]
  exact h.2.2.2 k v h1
theorem am_set_len : ∀ (ls : List (Option am_V)) (i : Nat) (v : am_V), (am_set ls i v).length = ls.length
  | [], _, _ => rfl
  | _ :: l, 0, v => rfl
  | none :: l, n + 1, v => by simp only [am_set, List.length_cons, am_set_len l n v]
  | some (.inl x) :: l, n + 1, v => by simp only [am_set, List.length_cons, am_set_len l n v]
  | some (.inr (.inl x)) :: l, n + 1, v => by simp only [am_set, List.length_cons, am_set_len l n v]
  | some (.inr (.inr x)) :: [], n + 1, v => by cases n <;> rfl
  | some (.inr (.inr x)) :: b :: l, 1, v => rfl
  | some (.inr (.inr x)) :: b :: l, n + 2, v => by simp only [am_set, List.length_cons, am_set_len (b :: l) (n + 1) v]
def am_isL (v : am_V) : Prop := ∃ x, v = .inr (.inr x)
theorem am_cat2 {ν : Nat → Nat → Nat} {v : am_V} (h : (am_rv ν v).category = 2) : am_isL v := by
  rcases v with x | x | x
  · simp [am_rv, Value.category] at h
  · simp [am_rv, Value.category] at h
  · exact ⟨x, rfl⟩
theorem am_set_at : ∀ {ls : List (Option am_V)} {i : Nat} {v : am_V} {k : Nat} {w : am_V}, i < ls.length → am_nth (am_set ls i v) k none = some w → (k = i ∧ w = v) ∨ (k ≠ i ∧ am_nth ls k none = some w ∧ ¬ (k + 1 = i ∧ am_isL w))
  | [], i, v, k, w, hi, h => by simp at hi
  | _ :: l, 0, v, 0, w, hi, h => by simp only [am_set, am_nth, Option.some.injEq] at h; exact Or.inl ⟨rfl, h.symm⟩
  | _ :: l, 0, v, k + 1, w, hi, h => by simp only [am_set, am_nth] at h; exact Or.inr ⟨by omega, h, fun q => by omega⟩
  | none :: l, n + 1, v, 0, w, hi, h => by simp [am_set, am_nth] at h
  | none :: l, n + 1, v, k + 1, w, hi, h => by
    simp only [am_set, am_nth] at h
    rcases am_set_at (by simp only [List.length_cons] at hi ⊢; omega) h with ⟨h1, h2⟩ | ⟨h1, h2, h3⟩
    · exact Or.inl ⟨by omega, h2⟩
    · exact Or.inr ⟨by omega, h2, fun q => h3 ⟨by omega, q.2⟩⟩
  | some (.inl x) :: l, n + 1, v, 0, w, hi, h => by
    simp only [am_set, am_nth, Option.some.injEq] at h
    exact Or.inr ⟨by omega, by rw [← h]; rfl, fun q => by obtain ⟨-, y, hy⟩ := q; rw [← h] at hy; cases hy⟩
  | some (.inl x) :: l, n + 1, v, k + 1, w, hi, h => by
    simp only [am_set, am_nth] at h
    rcases am_set_at (by simp only [List.length_cons] at hi ⊢; omega) h with ⟨h1, h2⟩ | ⟨h1, h2, h3⟩
    · exact Or.inl ⟨by omega, h2⟩
    · exact Or.inr ⟨by omega, h2, fun q => h3 ⟨by omega, q.2⟩⟩
  | some (.inr (.inl x)) :: l, n + 1, v, 0, w, hi, h => by
    simp only [am_set, am_nth, Option.some.injEq] at h
    exact Or.inr ⟨by omega, by rw [← h]; rfl, fun q => by obtain ⟨-, y, hy⟩ := q; rw [← h] at hy; cases hy⟩
  | some (.inr (.inl x)) :: l, n + 1, v, k + 1, w, hi, h => by
    simp only [am_set, am_nth] at h
    rcases am_set_at (by simp only [List.length_cons] at hi ⊢; omega) h with ⟨h1, h2⟩ | ⟨h1, h2, h3⟩
    · exact Or.inl ⟨by omega, h2⟩
    · exact Or.inr ⟨by omega, h2, fun q => h3 ⟨by omega, q.2⟩⟩
  | some (.inr (.inr x)) :: [], n + 1, v, k, w, hi, h => by
    cases n with
    | zero =>
      cases k with
      | zero => simp only [am_set, am_nth, Option.some.injEq] at h; exact Or.inr ⟨by omega, by rw [← h]; rfl, fun q => by simp at hi⟩
      | succ k => simp [am_set, am_nth] at h
    | succ n =>
      cases k with
      | zero => simp only [am_set, am_nth, Option.some.injEq] at h; exact Or.inr ⟨by omega, by rw [← h]; rfl, fun q => by omega⟩
      | succ k => simp [am_set, am_nth] at h
  | some (.inr (.inr x)) :: b :: l, 1, v, k, w, hi, h => by
    match k, h with
    | 0, h => simp [am_set, am_nth] at h
    | 1, h => simp only [am_set, am_nth, Option.some.injEq] at h; exact Or.inl ⟨rfl, h.symm⟩
    | k + 2, h => simp only [am_set, am_nth] at h; exact Or.inr ⟨by omega, h, fun q => by omega⟩
  | some (.inr (.inr x)) :: b :: l, n + 2, v, 0, w, hi, h => by
    simp only [am_set, am_nth, Option.some.injEq] at h
    exact Or.inr ⟨by omega, by rw [← h]; rfl, fun q => by omega⟩
  | some (.inr (.inr x)) :: b :: l, n + 2, v, k + 1, w, hi, h => by
    simp only [am_set, am_nth] at h
    rcases am_set_at (by simp only [List.length_cons] at hi ⊢; omega) h with ⟨h1, h2⟩ | ⟨h1, h2, h3⟩
    · exact Or.inl ⟨by omega, h2⟩
    · exact Or.inr ⟨by omega, h2, fun q => h3 ⟨by omega, q.2⟩⟩

theorem am_set2_len : ∀ (ls : List (Option am_V)) (i : Nat) (v : Int64), (am_set2 ls i v).length = ls.length
  | [], _, _ => rfl
  | [_], 0, v => rfl
  | _ :: _ :: l, 0, v => rfl
  | none :: l, n + 1, v => by simp only [am_set2, List.length_cons, am_set2_len l n v]
  | some (.inl x) :: l, n + 1, v => by simp only [am_set2, List.length_cons, am_set2_len l n v]
  | some (.inr (.inl x)) :: l, n + 1, v => by simp only [am_set2, List.length_cons, am_set2_len l n v]
  | some (.inr (.inr x)) :: [], n + 1, v => by cases n <;> rfl
  | some (.inr (.inr x)) :: [b], 1, v => rfl
  | some (.inr (.inr x)) :: b :: b' :: l, 1, v => rfl
  | some (.inr (.inr x)) :: b :: l, n + 2, v => by simp only [am_set2, List.length_cons, am_set2_len (b :: l) (n + 1) v]
theorem am_set2_at : ∀ {ls : List (Option am_V)} {i : Nat} {v : Int64} {k : Nat} {w : am_V}, i + 1 < ls.length → am_nth (am_set2 ls i v) k none = some w → (k = i ∧ w = .inr (.inr v)) ∨ (k ≠ i ∧ k ≠ i + 1 ∧ am_nth ls k none = some w ∧ ¬ (k + 1 = i ∧ am_isL w))
  | [], i, v, k, w, hi, h => by simp at hi
  | [a], i, v, k, w, hi, h => by simp at hi
  | _ :: _ :: l, 0, v, 0, w, hi, h => by simp only [am_set2, am_nth, Option.some.injEq] at h; exact Or.inl ⟨rfl, h.symm⟩
  | _ :: _ :: l, 0, v, 1, w, hi, h => by simp [am_set2, am_nth] at h
  | _ :: _ :: l, 0, v, k + 2, w, hi, h => by simp only [am_set2, am_nth] at h; exact Or.inr ⟨by omega, by omega, h, fun q => by omega⟩
  | none :: b :: l, n + 1, v, 0, w, hi, h => by simp [am_set2, am_nth] at h
  | none :: b :: l, n + 1, v, k + 1, w, hi, h => by
    simp only [am_set2, am_nth] at h
    rcases am_set2_at (by simp only [List.length_cons] at hi ⊢; omega) h with ⟨h1, h2⟩ | ⟨h1, h1', h2, h3⟩
    · exact Or.inl ⟨by omega, h2⟩
    · exact Or.inr ⟨by omega, by omega, h2, fun q => h3 ⟨by omega, q.2⟩⟩
  | some (.inl x) :: b :: l, n + 1, v, 0, w, hi, h => by
    simp only [am_set2, am_nth, Option.some.injEq] at h
    exact Or.inr ⟨by omega, by omega, by rw [← h]; rfl, fun q => by obtain ⟨-, y, hy⟩ := q; rw [← h] at hy; cases hy⟩
  | some (.inl x) :: b :: l, n + 1, v, k + 1, w, hi, h => by
    simp only [am_set2, am_nth] at h
    rcases am_set2_at (by simp only [List.length_cons] at hi ⊢; omega) h with ⟨h1, h2⟩ | ⟨h1, h1', h2, h3⟩
    · exact Or.inl ⟨by omega, h2⟩
    · exact Or.inr ⟨by omega, by omega, h2, fun q => h3 ⟨by omega, q.2⟩⟩
  | some (.inr (.inl x)) :: b :: l, n + 1, v, 0, w, hi, h => by
    simp only [am_set2, am_nth, Option.some.injEq] at h
    exact Or.inr ⟨by omega, by omega, by rw [← h]; rfl, fun q => by obtain ⟨-, y, hy⟩ := q; rw [← h] at hy; cases hy⟩
  | some (.inr (.inl x)) :: b :: l, n + 1, v, k + 1, w, hi, h => by
    simp only [am_set2, am_nth] at h
    rcases am_set2_at (by simp only [List.length_cons] at hi ⊢; omega) h with ⟨h1, h2⟩ | ⟨h1, h1', h2, h3⟩
    · exact Or.inl ⟨by omega, h2⟩
    · exact Or.inr ⟨by omega, by omega, h2, fun q => h3 ⟨by omega, q.2⟩⟩
  | some (.inr (.inr x)) :: [b], 1, v, k, w, hi, h => by simp at hi
  | some (.inr (.inr x)) :: b :: b' :: l, 1, v, k, w, hi, h => by
    match k, h with
    | 0, h => simp [am_set2, am_nth] at h
    | 1, h => simp only [am_set2, am_nth, Option.some.injEq] at h; exact Or.inl ⟨rfl, h.symm⟩
    | 2, h => simp [am_set2, am_nth] at h
    | k + 3, h => simp only [am_set2, am_nth] at h; exact Or.inr ⟨by omega, by omega, h, fun q => by omega⟩
  | some (.inr (.inr x)) :: b :: l, n + 2, v, 0, w, hi, h => by
    simp only [am_set2, am_nth, Option.some.injEq] at h
    exact Or.inr ⟨by omega, by omega, by rw [← h]; rfl, fun q => by omega⟩
  | some (.inr (.inr x)) :: b :: l, n + 2, v, k + 1, w, hi, h => by
    simp only [am_set2, am_nth] at h
    rcases am_set2_at (by simp only [List.length_cons] at hi ⊢; omega) h with ⟨h1, h2⟩ | ⟨h1, h1', h2, h3⟩
    · exact Or.inl ⟨by omega, h2⟩
    · exact Or.inr ⟨by omega, by omega, h2, fun q => h3 ⟨by omega, q.2⟩⟩
/-- what a store leaves of the locals -/
theorem am_lv_set {ν : Nat → Nat → Nat} {n i : Nat} {ls : List (Option am_V)} {lsc ls' : Array Slot} {v : am_V} (h : am_lv ν n ls lsc) (hi : i < n)
    (h' : lv_has ls' n ((i, am_rv ν v) :: (am_prs ν 0 ls).filter (fun q => !(q.1 == i) && !(q.1 + 1 == i && q.2.category == 2)))) : am_lv ν n (am_set ls i v) ls' := by
  refine ⟨(am_set_len ls i v).trans h.1, h'.1, h'.2.1, fun k w hk => ?_⟩
  rcases am_set_at (by rw [h.1]; exact hi) hk with ⟨rfl, rfl⟩ | ⟨h1, h2, h3⟩
  · exact h'.2.2 _ List.mem_cons_self
  · refine h'.2.2 (k, am_rv ν w) (List.mem_cons_of_mem _ (List.mem_filter.mpr ⟨?_, ?_⟩))
    · have := am_prs_of (ν := ν) (j := 0) h2
      rw [Nat.zero_add] at this; exact this
    · have hc : ¬ (k + 1 = i ∧ (am_rv ν w).category = 2) := fun q => h3 ⟨q.1, am_cat2 q.2⟩
      simp only [Bool.and_eq_true, Bool.not_eq_true', beq_eq_false_iff_ne, ne_eq, Bool.and_eq_false_iff]
      refine ⟨h1, ?_⟩
      rcases Nat.decEq (k + 1) i with q | q
      · exact Or.inl q
      · exact Or.inr fun z => hc ⟨q, z⟩
theorem am_lv_set2 {ν : Nat → Nat → Nat} {n i : Nat} {ls : List (Option am_V)} {lsc ls' : Array Slot} {v : Int64} (h : am_lv ν n ls lsc) (hi : i + 1 < n)
    (h' : lv_has ls' n ((i, Value.long v) :: (am_prs ν 0 ls).filter (fun q => !(q.1 == i) && (!(q.1 == i + 1) && !(q.1 + 1 == i && q.2.category == 2))))) : am_lv ν n (am_set2 ls i v) ls' := by
  refine ⟨(am_set2_len ls i v).trans h.1, h'.1, h'.2.1, fun k w hk => ?_⟩
  rcases am_set2_at (by rw [h.1]; exact hi) hk with ⟨rfl, rfl⟩ | ⟨h1, h1', h2, h3⟩
  · exact h'.2.2 _ List.mem_cons_self
  · refine h'.2.2 (k, am_rv ν w) (List.mem_cons_of_mem _ (List.mem_filter.mpr ⟨?_, ?_⟩))
    · have := am_prs_of (ν := ν) (j := 0) h2
      rw [Nat.zero_add] at this; exact this
    · have hc : ¬ (k + 1 = i ∧ (am_rv ν w).category = 2) := fun q => h3 ⟨q.1, am_cat2 q.2⟩
      simp only [Bool.and_eq_true, Bool.not_eq_true', beq_eq_false_iff_ne, ne_eq, Bool.and_eq_false_iff]
      refine ⟨h1, h1', ?_⟩
      rcases Nat.decEq (k + 1) i with q | q
      · exact Or.inl q
      · exact Or.inr fun z => hc ⟨q, z⟩
theorem am_ent_at {ν : Nat → Nat → Nat} : ∀ {as : List am_V} {n j k : Nat} {w : am_V}, am_nth (am_ent n as) k none = some w → (j + k, am_rv ν w) ∈ lv_args j (as.map (am_rv ν))
  | [], n, j, k, w, h => by
    have := am_nth_lt h
    exfalso
    have hz : ∀ (n k : Nat), am_nth (List.replicate n (none : Option am_V)) k none = none := by
      intro n
      induction n with
      | zero => intro k; rfl
      | succ n ih => intro k; cases k with
        | zero => rfl
        | succ k => exact ih k
    simp only [am_ent, hz] at h
    cases h
  | .inl x :: as, n, j, 0, w, h => by simp only [am_ent, am_nth, Option.some.injEq] at h; subst h; exact List.mem_cons_self
  | .inl x :: as, n, j, k + 1, w, h => by
    simp only [am_ent, am_nth] at h
    have := am_ent_at (ν := ν) (j := j + 1) h
    rw [show j + 1 + k = j + (k + 1) by omega] at this
    exact List.mem_cons_of_mem _ this
  | .inr (.inl x) :: as, n, j, 0, w, h => by simp only [am_ent, am_nth, Option.some.injEq] at h; subst h; exact List.mem_cons_self
  | .inr (.inl x) :: as, n, j, k + 1, w, h => by
    simp only [am_ent, am_nth] at h
    have := am_ent_at (ν := ν) (j := j + 1) h
    rw [show j + 1 + k = j + (k + 1) by omega] at this
    exact List.mem_cons_of_mem _ this
  | .inr (.inr x) :: as, n, j, 0, w, h => by simp only [am_ent, am_nth, Option.some.injEq] at h; subst h; exact List.mem_cons_self
  | .inr (.inr x) :: as, n, j, 1, w, h => by simp [am_ent, am_nth] at h
  | .inr (.inr x) :: as, n, j, k + 2, w, h => by
    simp only [am_ent, am_nth] at h
    have := am_ent_at (ν := ν) (j := j + 2) h
    rw [show j + 2 + k = j + (k + 2) by omega] at this
    exact List.mem_cons_of_mem _ this
theorem am_ent_len : ∀ {as : List am_V} {n : Nat}, am_cat as ≤ n → (am_ent n as).length = n
  | [], n, h => by simp [am_ent]
  | .inl x :: as, n, h => by simp only [am_cat] at h; simp only [am_ent, List.length_cons, am_ent_len (as := as) (n := n - 1) (by omega)]; omega
  | .inr (.inl x) :: as, n, h => by simp only [am_cat] at h; simp only [am_ent, List.length_cons, am_ent_len (as := as) (n := n - 1) (by omega)]; omega
  | .inr (.inr x) :: as, n, h => by simp only [am_cat] at h; simp only [am_ent, List.length_cons, am_ent_len (as := as) (n := n - 2) (by omega)]; omega
theorem am_cat_sl {ν : Nat → Nat → Nat} : ∀ (as : List am_V), (lg_sl (as.map (am_rv ν))).length = am_cat as
  | [] => rfl
  | .inl x :: as => by
    have := am_cat_sl (ν := ν) as
    simp only [lg_sl] at this
    simp only [lg_sl, List.map_cons, List.flatMap_cons, List.length_append, am_cat, this]; simp [am_rv, Value.category]
  | .inr (.inl x) :: as => by
    have := am_cat_sl (ν := ν) as
    simp only [lg_sl] at this
    simp only [lg_sl, List.map_cons, List.flatMap_cons, List.length_append, am_cat, this]; simp [am_rv, Value.category]
  | .inr (.inr x) :: as => by
    have := am_cat_sl (ν := ν) as
    simp only [lg_sl] at this
    simp only [lg_sl, List.map_cons, List.flatMap_cons, List.length_append, am_cat, this]; simp [am_rv, Value.category]
theorem am_cat_sum {ν : Nat → Nat → Nat} : ∀ (as : List am_V), ((as.map (am_rv ν)).map fun v => v.category).sum = am_cat as
  | [] => rfl
  | .inl x :: as => by simp only [List.map_cons, List.sum_cons, am_cat, am_cat_sum as]; simp [am_rv, Value.category]
  | .inr (.inl x) :: as => by simp only [List.map_cons, List.sum_cons, am_cat, am_cat_sum as]; simp [am_rv, Value.category]
  | .inr (.inr x) :: as => by simp only [List.map_cons, List.sum_cons, am_cat, am_cat_sum as]; simp [am_rv, Value.category]
theorem am_pop_of : ∀ {n : Nat} {st acc as rest : List am_V}, am_pop n st acc = some (as, rest) → acc.reverse ++ st = as.reverse ++ rest ∧ as.length = acc.length + n
  | 0, st, acc, as, rest, h => by simp only [am_pop, Option.some.injEq, Prod.mk.injEq] at h; obtain ⟨rfl, rfl⟩ := h; exact ⟨rfl, rfl⟩
  | n + 1, [], acc, as, rest, h => by simp [am_pop] at h
  | n + 1, v :: st, acc, as, rest, h => by
    simp only [am_pop] at h
    obtain ⟨h1, h2⟩ := am_pop_of h
    refine ⟨by rw [← h1]; simp, by rw [h2]; simp; omega⟩
