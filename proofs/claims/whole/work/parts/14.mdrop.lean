/-- how far the reference's drop has come: scans from a on moved up to b, dots of the b-th moved up to c -/
def cm_dropP (M M' : am_M) (a b c : Nat) : Prop :=
  am_fr [31, 32, 33, 34, 35, 36] M M' ∧
  (∀ f, f = 31 ∨ f = 32 ∨ f = 33 → ∀ j, M'.1 f 0 j = if a ≤ j ∧ j < b then M.1 f 0 (j + 1) else M.1 f 0 j) ∧
  (∀ f, f = 34 ∨ f = 35 ∨ f = 36 → ∀ j, M'.1 f 0 j = if 4 * a ≤ j ∧ j < c then M.1 f 0 (j + 4) else M.1 f 0 j)
theorem cm_drop {X : am_X} (hX : am_Cl X) (d : Nat) (M : am_M) (hd : 2 ≤ d) (s : Nat) (hs : s ≤ 12) (h2 : M.1 28 0 1 = nI s) (w : Int32) (Q : am_P)
    (h0 : ¬ (0 ≤ w ∧ w ≤ M.1 28 0 1 - 1) → Q (some (.inl (-1))) M)
    (h : ∀ a, a < s → w = nI a → ∀ M', cm_dropP (am_si M 28 0 1 (nI (s - 1))) M' a (s - 1) (4 * (s - 1)) → Q (some (.inl (nI (s - 1)))) (am_si M' 28 0 16 1)) : X d 90 0 [some (.inr (.inl (28, 0))), some (.inl (w)), none, none] [] M Q := by
  refine am_go hX [14] 60 ?_
  refine am_cc (by omega) (cm_isScan hX _ _ (by omega) _ _ (fun w1 w2 => ?_) (fun c => am_bne0 (h0 c)))
  obtain ⟨a, ha, rfl⟩ : ∃ k, k < s ∧ w = nI k := by
    obtain ⟨k, hk, rfl⟩ := nI_of (Int32.not_lt.mpr w1)
    rw [h2] at w2
    cases s with
    | zero => exact absurd w2 (by rw [show nI 0 - 1 = -1 from rfl]; exact Int32.not_le.mpr (Int32.lt_of_lt_of_le (by decide : (-1 : Int32) < 0) (nI_pos' hk)))
    | succ s =>
      rw [nI_pred] at w2
      have := (nI_leI hk (by omega)).mp w2
      exact ⟨k, by omega, rfl⟩
  have h := h a ha rfl
  have en : nI s - 1 = nI (s - 1) := by
    obtain ⟨t, rfl⟩ : ∃ t, s = t + 1 := ⟨s - 1, by omega⟩
    exact nI_pred t
  refine am_bne1 ?_
  refine (fun (z : X d 90 14 [some (.inr (.inl (28, 0))), some (.inl (nI a)), some (.inl (nI a)), none] [] (am_si M 28 0 1 (M.1 28 0 1 - 1)) Q) => z) ?_
  rw [h2, en]
  generalize hM0 : am_si M 28 0 1 (nI (s - 1)) = M0 at h ⊢
  have e0 : M0.1 28 0 1 = nI (s - 1) := by rw [← hM0]; simp [am_si_at]
  have inner : ∀ t c k b : Nat, c + t = 4 → a ≤ b → b < s - 1 → k = 4 * b + c → ∀ M' : am_M, cm_dropP M0 M' a (b + 1) k →
      (∀ M'' : am_M, cm_dropP M0 M'' a (b + 1) (4 * (b + 1)) → ∀ z, X d 90 14 [some (.inr (.inl (28, 0))), some (.inl (nI a)), some (.inl (nI (b + 1))), z] [] M'' Q) → X d 90 50 [some (.inr (.inl (28, 0))), some (.inl (nI a)), some (.inl (nI b)), some (.inl (nI c))] [] M' Q := by
    intro t
    induction t with
    | zero =>
      intro c k b hc hab hb hk M' hP out
      have hc : c = 4 := by omega
      subst hc
      refine am_go hX [14] 60 ?_
      refine ⟨fun _ => ?_, fun (q : ¬ (4 : Int32) ≤ nI 4) => absurd (by decide) q⟩
      refine (fun (z : X d 90 14 [some (.inr (.inl (28, 0))), some (.inl (nI a)), some (.inl (nI b + 1)), some (.inl (nI 4))] [] M' Q) => z) ?_
      rw [nI_1]
      refine out M' ?_ _
      rw [show 4 * (b + 1) = k by omega]; exact hP
    | succ t ih =>
      intro c k b hc hab hb hk M' hP out
      refine am_go hX [14, 50] 80 ?_
      refine ⟨fun (q : (4 : Int32) ≤ nI c) => absurd q (nI_ge (b := 4) (by omega) (by decide)), fun _ => ?_⟩
      have ix : 4 * nI b + nI c = nI k := by rw [show (4 : Int32) = nI 4 from rfl, pk_mul, nI_add, hk]
      have ix4 : 4 * nI b + 4 + nI c = nI (k + 4) := by rw [show (4 : Int32) = nI 4 from rfl, pk_mul, nI_add, nI_add]; congr 1; omega
      have l1 : k < 48 := by omega
      have l2 : k + 4 < 48 := by omega
      refine ⟨k + 4, l2, ix4, k, l1, ix, k + 4, l2, ix4, k, l1, ix, k + 4, l2, ix4, k, l1, ix, ?_⟩
      refine (fun (z : X d 90 50 [some (.inr (.inl (28, 0))), some (.inl (nI a)), some (.inl (nI b)), some (.inl (nI c + 1))] [] (am_si (am_si (am_si M' 34 0 k (M'.1 34 0 (k + 4))) 35 0 k (M'.1 35 0 (k + 4))) 36 0 k (M'.1 36 0 (k + 4))) Q) => z) ?_
      rw [nI_1]
      obtain ⟨fr, g1, g2⟩ := hP
      refine ih (c + 1) (k + 1) b (by omega) hab hb (by omega) _ ⟨am_fr_si (am_fr_si (am_fr_si fr (by decide)) (by decide)) (by decide), fun f hf j => ?_, fun f hf j => ?_⟩ out
      · rw [← g1 f hf j]; rcases hf with rfl | rfl | rfl <;> simp [am_si_at]
      · have e4 := g2 f hf (k + 4)
        rw [if_neg (by omega)] at e4
        have ej := g2 f hf j
        rcases hf with rfl | rfl | rfl
        all_goals
          simp only [am_si_at, e4, ej, true_and]
          by_cases hj : j = k
          · subst hj; simp; omega
          · simp [hj]; split <;> split <;> first | rfl | (exfalso; omega)
  have loop : ∀ t b : Nat, b + t = s - 1 → a ≤ b → ∀ M' : am_M, cm_dropP M0 M' a b (4 * b) → ∀ z, X d 90 14 [some (.inr (.inl (28, 0))), some (.inl (nI a)), some (.inl (nI b)), z] [] M' Q := by
    intro t
    induction t with
    | zero =>
      intro b hb hab M' hP z
      have hb : b = s - 1 := by omega
      subst hb
      have e1 : M'.1 28 0 1 = nI (s - 1) := (hP.1.2 28 0 1 (by decide)).trans e0
      refine am_go hX [14, 50] 60 ?_
      refine ⟨fun _ => ?_, fun (q : ¬ M'.1 28 0 1 ≤ nI (s - 1)) => absurd (by rw [e1]; exact nI_le (Nat.le_refl _) (by omega)) q⟩
      refine ⟨Or.inr rfl, ?_⟩
      refine (fun (z : Q (some (.inl (M'.1 28 0 1))) (am_si M' 28 0 16 1)) => z) ?_
      rw [e1]
      exact h M' hP
    | succ t ih =>
      intro b hb hab M' hP z
      have e1 : M'.1 28 0 1 = nI (s - 1) := (hP.1.2 28 0 1 (by decide)).trans e0
      refine am_go hX [14, 50] 80 ?_
      refine ⟨fun (q : M'.1 28 0 1 ≤ nI b) => absurd q (by rw [e1]; exact nI_ge (by omega) (by omega)), fun _ => ?_⟩
      have l1 : b < 12 := by omega
      have l2 : b + 1 < 12 := by omega
      refine ⟨b + 1, l2, nI_1 b, b, l1, rfl, b + 1, l2, nI_1 b, b, l1, rfl, b + 1, l2, nI_1 b, b, l1, rfl, ?_⟩
      refine (fun (z : X d 90 50 [some (.inr (.inl (28, 0))), some (.inl (nI a)), some (.inl (nI b)), some (.inl (nI 0))] [] (am_si (am_si (am_si M' 31 0 b (M'.1 31 0 (b + 1))) 32 0 b (M'.1 32 0 (b + 1))) 33 0 b (M'.1 33 0 (b + 1))) Q) => z) ?_
      obtain ⟨fr, g1, g2⟩ := hP
      refine inner 4 0 (4 * b) b (by omega) hab (by omega) rfl _ ⟨am_fr_si (am_fr_si (am_fr_si fr (by decide)) (by decide)) (by decide), fun f hf j => ?_, fun f hf j => ?_⟩ (fun M'' hP'' z => ih (b + 1) (by omega) (by omega) M'' hP'' z)
      · have e4 := g1 f hf (b + 1)
        rw [if_neg (by omega)] at e4
        have ej := g1 f hf j
        rcases hf with rfl | rfl | rfl
        all_goals
          simp only [am_si_at, e4, ej, true_and]
          by_cases hj : j = b
          · subst hj; simp; omega
          · simp [hj]; split <;> split <;> first | rfl | (exfalso; omega)
      · rw [← g2 f hf j]; rcases hf with rfl | rfl | rfl <;> simp [am_si_at]
  refine loop (s - 1 - a) a (by omega) (Nat.le_refl a) M0 ⟨am_fr_rf _ _, fun f hf j => ?_, fun f hf j => ?_⟩ none
  · rw [if_neg (by omega)]
  · rw [if_neg (by omega)]
