/-! memories that differ in some families alone -/
def am_fr (L : List Nat) (M M' : am_M) : Prop := M'.2 = M.2 ∧ ∀ f i k, f ∉ L → M'.1 f i k = M.1 f i k
theorem am_fr_rf (L : List Nat) (M : am_M) : am_fr L M M := ⟨rfl, fun _ _ _ _ => rfl⟩
theorem am_fr_si {L : List Nat} {M M' : am_M} {f i k : Nat} {x : Int32} (h : am_fr L M M') (hf : f ∈ L) : am_fr L M (am_si M' f i k x) := by
  refine ⟨h.1, fun f' i' k' hn => ?_⟩
  show (if f' = f ∧ i' = i ∧ k' = k then x else M'.1 f' i' k') = _
  rw [if_neg (fun q => hn (by rw [q.1]; exact hf))]
  exact h.2 f' i' k' hn
theorem am_fr_tr {L : List Nat} {M M' M'' : am_M} (h : am_fr L M M') (h' : am_fr L M' M'') : am_fr L M M'' := ⟨h'.1.trans h.1, fun f i k hn => (h'.2 f i k hn).trans (h.2 f i k hn)⟩
theorem am_fr_mono {L L' : List Nat} {M M' : am_M} (h : am_fr L M M') (hs : ∀ f ∈ L, f ∈ L') : am_fr L' M M' := ⟨h.1, fun f i k hn => h.2 f i k (fun q => hn (hs f q))⟩
theorem am_si_at {M : am_M} {f i k f' i' k' : Nat} {x : Int32} : (am_si M f i k x).1 f' i' k' = if f' = f ∧ i' = i ∧ k' = k then x else M.1 f' i' k' := rfl
theorem am_si_2 {M : am_M} {f i k : Nat} {x : Int32} : (am_si M f i k x).2 = M.2 := rfl
/-- behind the reference's scan -/
def cm_scanP (M M' : am_M) (s q : Nat) (w m : Int32) : Prop :=
  am_fr [28, 31, 32, 33, 34, 35, 36] M M' ∧ (∀ k, M'.1 28 0 k = if k = 1 then nI (s + 1) else if k = 2 then 0 else if k = 16 then 1 else M.1 28 0 k) ∧
  (∀ j, M'.1 31 0 j = if j = s then w else M.1 31 0 j) ∧ (∀ j, M'.1 32 0 j = if j = s then m else M.1 32 0 j) ∧ (∀ j, M'.1 33 0 j = if j = s then nI q else M.1 33 0 j) ∧
  (∀ j, M'.1 34 0 j = if 4 * s ≤ j ∧ j < 4 * s + q then M.1 37 0 (j - 4 * s) else M.1 34 0 j) ∧ (∀ j, M'.1 35 0 j = if 4 * s ≤ j ∧ j < 4 * s + q then M.1 38 0 (j - 4 * s) else M.1 35 0 j) ∧ (∀ j, M'.1 36 0 j = if 4 * s ≤ j ∧ j < 4 * s + q then M.1 39 0 (j - 4 * s) else M.1 36 0 j)
theorem cm_scan {X : am_X} (hX : am_Cl X) (d : Nat) (M : am_M) (hd : 2 ≤ d) (s q : Nat) (hs : s ≤ 12) (hq : q ≤ 4) (h2 : M.1 28 0 1 = nI s) (h3 : M.1 28 0 2 = nI q) (w m : Int32) (Q : am_P)
    (h0 : ¬ (0 ≤ w ∧ w ≤ M.1 28 0 0 - 1) → Q (some (.inl (-1))) M) (h1 : 0 ≤ w → w ≤ M.1 28 0 0 - 1 → ¬ (0 ≤ m ∧ m ≤ 999) → Q (some (.inl (-2))) M) (hf : 0 ≤ w → w ≤ M.1 28 0 0 - 1 → (0 ≤ m ∧ m ≤ 999) → s = 12 → Q (some (.inl (-4))) M)
    (h : 0 ≤ w → w ≤ M.1 28 0 0 - 1 → (0 ≤ m ∧ m ≤ 999) → s < 12 → ∀ M', cm_scanP M M' s q w m → Q (some (.inl (nI s))) M') : X d 89 0 [some (.inr (.inl (28, 0))), some (.inl (w)), some (.inl (m)), none] [] M Q := by
  refine am_go hX [41] 60 ?_
  refine am_cc (by omega) (cm_isWatcher hX _ _ (by omega) _ _ (fun w1 w2 => ?_) (fun c => am_bne0 (h0 c)))
  refine am_bne1 (am_cc (by omega) (cm_in hX _ _ _ _ _ _ (fun a1 a2 => ?_) (fun c => am_bne0 (h1 w1 w2 c))))
  refine am_bne1 ⟨fun (c : ¬ M.1 28 0 1 = 12) => ?_, fun (c : ¬ ¬ M.1 28 0 1 = 12) => ?_⟩
  · have hs12 : s < 12 := by
      rcases Nat.lt_or_ge s 12 with z | z
      · exact z
      · have : s = 12 := by omega
        subst this; exact absurd h2 c
    have h := h w1 w2 ⟨a1, a2⟩ hs12
    refine ⟨s, hs12, h2, s, hs12, h2, s, hs12, h2, ?_⟩
    -- the loop over the dots that wait
    have loop : ∀ t k : Nat, k + t = q → ∀ M' : am_M, am_fr [31, 32, 33, 34, 35, 36] M M' →
        (∀ j, M'.1 31 0 j = if j = s then w else M.1 31 0 j) → (∀ j, M'.1 32 0 j = if j = s then m else M.1 32 0 j) → (∀ j, M'.1 33 0 j = if j = s then nI q else M.1 33 0 j) →
        (∀ j, M'.1 34 0 j = if 4 * s ≤ j ∧ j < 4 * s + k then M.1 37 0 (j - 4 * s) else M.1 34 0 j) → (∀ j, M'.1 35 0 j = if 4 * s ≤ j ∧ j < 4 * s + k then M.1 38 0 (j - 4 * s) else M.1 35 0 j) → (∀ j, M'.1 36 0 j = if 4 * s ≤ j ∧ j < 4 * s + k then M.1 39 0 (j - 4 * s) else M.1 36 0 j) →
        X d 89 41 [some (.inr (.inl (28, 0))), some (.inl (w)), some (.inl (m)), some (.inl (nI k))] [] M' Q := by
      intro t
      induction t with
      | zero =>
        intro k hk M' fr g1 g2 g3 g4 g5 g6
        have hk : k = q := by omega
        subst hk
        have e2 : M'.1 28 0 2 = nI k := (fr.2 28 0 2 (by decide)).trans h3
        have e1 : M'.1 28 0 1 = nI s := (fr.2 28 0 1 (by decide)).trans h2
        refine am_go hX [41] 60 ?_
        refine ⟨fun _ => ?_, fun (c : ¬ M'.1 28 0 2 ≤ nI k) => absurd (by rw [e2]; exact nI_le (Nat.le_refl k) (by omega)) c⟩
        refine ⟨Or.inr rfl, ?_⟩
        show Q (some (.inl ((am_si (am_si (am_si M' 28 0 2 0) 28 0 1 (M'.1 28 0 1 + 1)) 28 0 16 1).1 28 0 1 - 1))) (am_si (am_si (am_si M' 28 0 2 0) 28 0 1 (M'.1 28 0 1 + 1)) 28 0 16 1)
        have ev : (am_si (am_si (am_si M' 28 0 2 0) 28 0 1 (M'.1 28 0 1 + 1)) 28 0 16 1).1 28 0 1 - 1 = nI s := by simp [am_si_at, e1]
        rw [ev]
        refine h _ ⟨⟨fr.1, fun f i j hn => ?_⟩, fun j => ?_, fun j => ?_, fun j => ?_, fun j => ?_, fun j => ?_, fun j => ?_, fun j => ?_⟩
        · have h28 : f ≠ 28 := fun z => hn (by rw [z]; decide)
          simp only [am_si_at, h28, false_and, if_false]
          exact fr.2 f i j (fun z => hn (List.mem_cons_of_mem _ z))
        · simp only [am_si_at, e1, nI_1, true_and]
          have := fr.2 28 0 j (by decide)
          repeat' split
          all_goals first | rfl | (exfalso; omega) | exact this
        · exact (by simp [am_si_at] : _ = M'.1 31 0 j).trans (g1 j)
        · exact (by simp [am_si_at] : _ = M'.1 32 0 j).trans (g2 j)
        · exact (by simp [am_si_at] : _ = M'.1 33 0 j).trans (g3 j)
        · exact (by simp [am_si_at] : _ = M'.1 34 0 j).trans (g4 j)
        · exact (by simp [am_si_at] : _ = M'.1 35 0 j).trans (g5 j)
        · exact (by simp [am_si_at] : _ = M'.1 36 0 j).trans (g6 j)
      | succ t ih =>
        intro k hk M' fr g1 g2 g3 g4 g5 g6
        have e2 : M'.1 28 0 2 = nI q := (fr.2 28 0 2 (by decide)).trans h3
        have e1 : M'.1 28 0 1 = nI s := (fr.2 28 0 1 (by decide)).trans h2
        have ix : 4 * M'.1 28 0 1 + nI k = nI (4 * s + k) := by rw [e1, show (4 : Int32) = nI 4 from rfl, pk_mul, nI_add]
        refine am_go hX [41] 60 ?_
        refine ⟨fun (c : M'.1 28 0 2 ≤ nI k) => absurd c (by rw [e2]; exact nI_ge (by omega) (by omega)), fun _ => ?_⟩
        have l48 : 4 * s + k < 48 := by omega
        have k4 : k < 4 := by omega
        refine ⟨k, k4, rfl, 4 * s + k, l48, ix, k, k4, rfl, 4 * s + k, l48, ix, k, k4, rfl, 4 * s + k, l48, ix, ?_⟩
        refine (fun (z : X d 89 41 [some (.inr (.inl (28, 0))), some (.inl (w)), some (.inl (m)), some (.inl (nI k + 1))] [] (am_si (am_si (am_si M' 34 0 (4 * s + k) (M'.1 37 0 k)) 35 0 (4 * s + k) (M'.1 38 0 k)) 36 0 (4 * s + k) (M'.1 39 0 k)) Q) => z) ?_
        rw [nI_1]
        refine ih (k + 1) (by omega) _ (am_fr_si (am_fr_si (am_fr_si fr (by decide)) (by decide)) (by decide)) (fun j => ?_) (fun j => ?_) (fun j => ?_) (fun j => ?_) (fun j => ?_) (fun j => ?_)
        · exact (by simp [am_si_at] : _ = M'.1 31 0 j).trans (g1 j)
        · exact (by simp [am_si_at] : _ = M'.1 32 0 j).trans (g2 j)
        · exact (by simp [am_si_at] : _ = M'.1 33 0 j).trans (g3 j)
        · have e := fr.2 37 0 k (by decide)
          simp only [am_si_at, g4 j, e, true_and]
          by_cases hj : j = 4 * s + k
          · subst hj; simp
          · simp [hj]; split <;> split <;> first | rfl | (exfalso; omega)
        · have e := fr.2 38 0 k (by decide)
          simp only [am_si_at, g5 j, e, true_and]
          by_cases hj : j = 4 * s + k
          · subst hj; simp
          · simp [hj]; split <;> split <;> first | rfl | (exfalso; omega)
        · have e := fr.2 39 0 k (by decide)
          simp only [am_si_at, g6 j, e, true_and]
          by_cases hj : j = 4 * s + k
          · subst hj; simp
          · simp [hj]; split <;> split <;> first | rfl | (exfalso; omega)
    refine (fun (z : X d 89 41 [some (.inr (.inl (28, 0))), some (.inl (w)), some (.inl (m)), some (.inl (nI 0))] [] (am_si (am_si (am_si M 31 0 s w) 32 0 s m) 33 0 s (M.1 28 0 2)) Q) => z) ?_
    refine loop q 0 (by omega) _ (am_fr_si (am_fr_si (am_fr_si (am_fr_rf _ M) (by decide)) (by decide)) (by decide)) (fun j => ?_) (fun j => ?_) (fun j => ?_) (fun j => ?_) (fun j => ?_) (fun j => ?_)
    · simp [am_si_at]
    · simp [am_si_at]
    · simp [am_si_at, h3]
    · rw [if_neg (by omega)]; simp [am_si_at]
    · rw [if_neg (by omega)]; simp [am_si_at]
    · rw [if_neg (by omega)]; simp [am_si_at]
  · have c := Classical.not_not.mp c
    rw [h2] at c
    exact hf w1 w2 ⟨a1, a2⟩ ((nI_eq (a := s) (b := 12) (by omega) (by decide)).mp c)
