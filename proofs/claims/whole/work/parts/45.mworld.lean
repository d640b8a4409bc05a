/-! the reference's worlds: a copy; a track that begins, that goes on -/
def rm_in (b f k : Nat) : Prop := (f = 43 ∧ k = b) ∨ (f = 44 ∧ k = b) ∨ (f = 45 ∧ 48 * b ≤ k ∧ k < 48 * b + 48) ∨ (46 ≤ f ∧ f ≤ 54 ∧ 6 * b ≤ k ∧ k < 6 * b + 6)
def rm_only (b : Nat) (M M' : am_M) : Prop := M'.2 = M.2 ∧ ∀ f i k, ¬ rm_in b f k → M'.1 f i k = M.1 f i k
theorem rm_only_rf (b : Nat) (M : am_M) : rm_only b M M := ⟨rfl, fun _ _ _ _ => rfl⟩
theorem rm_only_tr {b : Nat} {M M' M'' : am_M} (h : rm_only b M M') (h' : rm_only b M' M'') : rm_only b M M'' := ⟨h'.1.trans h.1, fun f i k q => (h'.2 f i k q).trans (h.2 f i k q)⟩
theorem rm_only_si {b f i k : Nat} {x : Int32} {M M' : am_M} (h : rm_only b M M') (hf : rm_in b f k) : rm_only b M (am_si M' f i k x) := ⟨h.1, fun f' i' k' q => by rw [am_si_at, if_neg (fun z => q (by rw [z.1, z.2.2]; exact hf))]; exact h.2 f' i' k' q⟩
theorem rm_only_fr {b : Nat} {M M' : am_M} (h : rm_only b M M') : am_fr [43, 44, 45, 46, 47, 48, 49, 50, 51, 52, 53, 54] M M' := ⟨h.1, fun f i k q => h.2 f i k (fun z => q (by unfold rm_in at z; simp; omega))⟩
/-- a track's row of cells -/
def mk_row (M M' : am_M) (t : Nat) (r : Nat → Int32) : Prop := M'.2 = M.2 ∧ (∀ f i k, ¬ (46 ≤ f ∧ f ≤ 54 ∧ i = 0 ∧ k = t) → M'.1 f i k = M.1 f i k) ∧ ∀ j, j < 9 → M'.1 (46 + j) 0 t = r j
theorem mk_row_fr {M M' : am_M} {t : Nat} {r : Nat → Int32} (h : mk_row M M' t r) : am_fr [46, 47, 48, 49, 50, 51, 52, 53, 54] M M' := ⟨h.1, fun f i k q => h.2.1 f i k (fun z => q (by simp; omega))⟩
theorem rm_only_row {b k : Nat} {M M' M'' : am_M} {r : Nat → Int32} (h : rm_only b M M') (hk : k < 6) (hr : mk_row M' M'' (6 * b + k) r) : rm_only b M M'' := ⟨hr.1.trans h.1, fun f i k' q => by rw [hr.2.1 f i k' (fun z => q (by unfold rm_in; omega))]; exact h.2 f i k' q⟩
def mk_part (M M' : am_M) (p q n : Nat) : Prop := M'.2 = M.2 ∧ (∀ f i k, ¬ (46 ≤ f ∧ f < 46 + n ∧ i = 0 ∧ k = q) → M'.1 f i k = M.1 f i k) ∧ ∀ j, j < n → M'.1 (46 + j) 0 q = M.1 (46 + j) 0 p
theorem mk_part_s {M M' : am_M} {p q n : Nat} (hpq : p ≠ q) (h : mk_part M M' p q n) : mk_part M (am_si M' (46 + n) 0 q (M'.1 (46 + n) 0 p)) p q (n + 1) := by
  refine ⟨h.1, fun f i k z => ?_, fun j hj => ?_⟩
  · rw [am_si_at, if_neg (by omega)]; exact h.2.1 f i k (by omega)
  · rw [am_si_at]
    by_cases z : j = n
    · subst z; rw [if_pos ⟨rfl, rfl, rfl⟩]; exact h.2.1 _ _ _ (by omega)
    · rw [if_neg (by omega)]; exact h.2.2 j (by omega)
set_option maxHeartbeats 1000000 in
theorem cm_copyWorld {X : am_X} (hX : am_Cl X) (d : Nat) (M : am_M) (hE : ∀ k, k < 48 → M.1 54 0 k = 0 ∨ M.1 54 0 k = 1) (a b : Nat) (ha : a < 8) (hb : b < 8) (hab : a ≠ b) (Q : am_P)
    (h : ∀ M', rm_only b M M' → M'.1 43 0 b = M.1 43 0 a → M'.1 44 0 b = M.1 44 0 a → (∀ k, k < 48 → M'.1 45 0 (48 * b + k) = M.1 45 0 (48 * a + k)) → (∀ j k, j < 9 → k < 6 → M'.1 (46 + j) 0 (6 * b + k) = M.1 (46 + j) 0 (6 * a + k)) → Q none M') : X d 101 0 [some (.inr (.inl (28, 0))), some (.inl (nI a)), some (.inl (nI b)), none, none, none] [] M Q := by
  have ix48 : ∀ b k, 48 * nI b + nI k = nI (48 * b + k) := fun b k => by rw [show (48 : Int32) = nI 48 from rfl, pk_mul, nI_add]
  have ix6 : ∀ b k, 6 * nI b + nI k = nI (6 * b + k) := fun b k => by rw [show (6 : Int32) = nI 6 from rfl, pk_mul, nI_add]
  have second : ∀ r k : Nat, k + r = 6 → ∀ M' : am_M, rm_only b M M' → M'.1 43 0 b = M.1 43 0 a → M'.1 44 0 b = M.1 44 0 a → (∀ k, k < 48 → M'.1 45 0 (48 * b + k) = M.1 45 0 (48 * a + k)) → (∀ j k', j < 9 → k' < k → M'.1 (46 + j) 0 (6 * b + k') = M.1 (46 + j) 0 (6 * a + k')) → ∀ z4 z5, X d 101 41 [some (.inr (.inl (28, 0))), some (.inl (nI a)), some (.inl (nI b)), some (.inl (nI k)), z4, z5] [] M' Q := by
    intro r
    induction r with
    | zero =>
      intro k hk M' ho h1 h2 h3 h4 z4 z5
      have hk : k = 6 := by omega
      subst hk
      refine am_go hX [41] 40 ?_
      exact ⟨fun _ => h M' ho h1 h2 h3 h4, fun (q : ¬ (6 : Int32) ≤ nI 6) => absurd (by decide) q⟩
    | succ r ih =>
      intro k hk M' ho h1 h2 h3 h4 z4 z5
      have pa : 6 * a + k < 48 := by omega
      have pb : 6 * b + k < 48 := by omega
      have hne : 6 * a + k ≠ 6 * b + k := by omega
      have src : ∀ j, j < 9 → M'.1 (46 + j) 0 (6 * a + k) = M.1 (46 + j) 0 (6 * a + k) := fun j hj => ho.2 _ _ _ (fun z => by unfold rm_in at z; omega)
      have e9 : ∀ M1 : am_M, mk_part M' M1 (6 * a + k) (6 * b + k) 9 → X d 101 128 [some (.inr (.inl (28, 0))), some (.inl (nI a)), some (.inl (nI b)), some (.inl (nI k)), some (.inl (nI (6 * a + k))), some (.inl (nI (6 * b + k)))] [] M1 Q := by
        intro M1 hp
        refine am_go hX [41] 20 ?_
        refine (fun (z : X d 101 41 [some (.inr (.inl (28, 0))), some (.inl (nI a)), some (.inl (nI b)), some (.inl (nI k + 1)), some (.inl (nI (6 * a + k))), some (.inl (nI (6 * b + k)))] [] M1 Q) => z) ?_
        have hr : mk_row M' M1 (6 * b + k) (fun j => M'.1 (46 + j) 0 (6 * a + k)) := ⟨hp.1, fun f i k' q => hp.2.1 f i k' (by omega), fun j hj => hp.2.2 j hj⟩
        rw [nI_1]
        refine ih (k + 1) (by omega) M1 (rm_only_row ho (by omega) hr) ((hr.2.1 _ _ _ (by omega)).trans h1) ((hr.2.1 _ _ _ (by omega)).trans h2) (fun k' hk' => (hr.2.1 _ _ _ (by omega)).trans (h3 k' hk')) (fun j k' hj hk' => ?_) _ _
        by_cases z : k' = k
        · subst z; rw [hr.2.2 j hj]; exact src j hj
        · rw [hr.2.1 _ _ _ (by omega)]; exact h4 j k' hj (by omega)
      have e8 : ∀ M1 : am_M, mk_part M' M1 (6 * a + k) (6 * b + k) 8 → X d 101 120 [some (.inr (.inl (28, 0))), some (.inl (nI a)), some (.inl (nI b)), some (.inl (nI k)), some (.inl (nI (6 * a + k))), some (.inl (nI (6 * b + k)))] [] M1 Q := by
        intro M1 hp
        refine am_go hX [128] 20 ?_
        refine ⟨6 * a + k, pa, rfl, 6 * b + k, pb, rfl, ?_, ?_⟩
        · show M1.1 54 0 (6 * a + k) = 0 ∨ M1.1 54 0 (6 * a + k) = 1
          rw [hp.2.1 54 0 _ (by omega), src 8 (by omega)]; exact hE _ pa
        · exact e9 (am_si M1 54 0 (6 * b + k) (M1.1 54 0 (6 * a + k))) (mk_part_s hne hp)
      have e7 : ∀ M1 : am_M, mk_part M' M1 (6 * a + k) (6 * b + k) 7 → X d 101 112 [some (.inr (.inl (28, 0))), some (.inl (nI a)), some (.inl (nI b)), some (.inl (nI k)), some (.inl (nI (6 * a + k))), some (.inl (nI (6 * b + k)))] [] M1 Q := by
        intro M1 hp
        refine am_go hX [120] 20 ?_
        refine ⟨6 * a + k, pa, rfl, 6 * b + k, pb, rfl, ?_⟩
        exact e8 (am_si M1 53 0 (6 * b + k) (M1.1 53 0 (6 * a + k))) (mk_part_s hne hp)
      have e6 : ∀ M1 : am_M, mk_part M' M1 (6 * a + k) (6 * b + k) 6 → X d 101 104 [some (.inr (.inl (28, 0))), some (.inl (nI a)), some (.inl (nI b)), some (.inl (nI k)), some (.inl (nI (6 * a + k))), some (.inl (nI (6 * b + k)))] [] M1 Q := by
        intro M1 hp
        refine am_go hX [112] 20 ?_
        refine ⟨6 * a + k, pa, rfl, 6 * b + k, pb, rfl, ?_⟩
        exact e7 (am_si M1 52 0 (6 * b + k) (M1.1 52 0 (6 * a + k))) (mk_part_s hne hp)
      have e5 : ∀ M1 : am_M, mk_part M' M1 (6 * a + k) (6 * b + k) 5 → X d 101 96 [some (.inr (.inl (28, 0))), some (.inl (nI a)), some (.inl (nI b)), some (.inl (nI k)), some (.inl (nI (6 * a + k))), some (.inl (nI (6 * b + k)))] [] M1 Q := by
        intro M1 hp
        refine am_go hX [104] 20 ?_
        refine ⟨6 * a + k, pa, rfl, 6 * b + k, pb, rfl, ?_⟩
        exact e6 (am_si M1 51 0 (6 * b + k) (M1.1 51 0 (6 * a + k))) (mk_part_s hne hp)
      have e4 : ∀ M1 : am_M, mk_part M' M1 (6 * a + k) (6 * b + k) 4 → X d 101 88 [some (.inr (.inl (28, 0))), some (.inl (nI a)), some (.inl (nI b)), some (.inl (nI k)), some (.inl (nI (6 * a + k))), some (.inl (nI (6 * b + k)))] [] M1 Q := by
        intro M1 hp
        refine am_go hX [96] 20 ?_
        refine ⟨6 * a + k, pa, rfl, 6 * b + k, pb, rfl, ?_⟩
        exact e5 (am_si M1 50 0 (6 * b + k) (M1.1 50 0 (6 * a + k))) (mk_part_s hne hp)
      have e3 : ∀ M1 : am_M, mk_part M' M1 (6 * a + k) (6 * b + k) 3 → X d 101 80 [some (.inr (.inl (28, 0))), some (.inl (nI a)), some (.inl (nI b)), some (.inl (nI k)), some (.inl (nI (6 * a + k))), some (.inl (nI (6 * b + k)))] [] M1 Q := by
        intro M1 hp
        refine am_go hX [88] 20 ?_
        refine ⟨6 * a + k, pa, rfl, 6 * b + k, pb, rfl, ?_⟩
        exact e4 (am_si M1 49 0 (6 * b + k) (M1.1 49 0 (6 * a + k))) (mk_part_s hne hp)
      have e2 : ∀ M1 : am_M, mk_part M' M1 (6 * a + k) (6 * b + k) 2 → X d 101 72 [some (.inr (.inl (28, 0))), some (.inl (nI a)), some (.inl (nI b)), some (.inl (nI k)), some (.inl (nI (6 * a + k))), some (.inl (nI (6 * b + k)))] [] M1 Q := by
        intro M1 hp
        refine am_go hX [80] 20 ?_
        refine ⟨6 * a + k, pa, rfl, 6 * b + k, pb, rfl, ?_⟩
        exact e3 (am_si M1 48 0 (6 * b + k) (M1.1 48 0 (6 * a + k))) (mk_part_s hne hp)
      have e1 : ∀ M1 : am_M, mk_part M' M1 (6 * a + k) (6 * b + k) 1 → X d 101 64 [some (.inr (.inl (28, 0))), some (.inl (nI a)), some (.inl (nI b)), some (.inl (nI k)), some (.inl (nI (6 * a + k))), some (.inl (nI (6 * b + k)))] [] M1 Q := by
        intro M1 hp
        refine am_go hX [72] 20 ?_
        refine ⟨6 * a + k, pa, rfl, 6 * b + k, pb, rfl, ?_⟩
        exact e2 (am_si M1 47 0 (6 * b + k) (M1.1 47 0 (6 * a + k))) (mk_part_s hne hp)
      have e0 : ∀ M1 : am_M, mk_part M' M1 (6 * a + k) (6 * b + k) 0 → X d 101 56 [some (.inr (.inl (28, 0))), some (.inl (nI a)), some (.inl (nI b)), some (.inl (nI k)), some (.inl (nI (6 * a + k))), some (.inl (nI (6 * b + k)))] [] M1 Q := by
        intro M1 hp
        refine am_go hX [64] 20 ?_
        refine ⟨6 * a + k, pa, rfl, 6 * b + k, pb, rfl, ?_⟩
        exact e1 (am_si M1 46 0 (6 * b + k) (M1.1 46 0 (6 * a + k))) (mk_part_s hne hp)
      refine am_go hX [41, 56] 40 ?_
      refine ⟨fun (q : (6 : Int32) ≤ nI k) => absurd q (nI_ge (b := 6) (by omega) (by decide)), fun _ => ?_⟩
      refine (fun (z : X d 101 56 [some (.inr (.inl (28, 0))), some (.inl (nI a)), some (.inl (nI b)), some (.inl (nI k)), some (.inl (6 * nI a + nI k)), some (.inl (6 * nI b + nI k))] [] M' Q) => z) ?_
      rw [ix6, ix6]
      exact e0 M' ⟨rfl, fun _ _ _ _ => rfl, fun j hj => by omega⟩
  have first : ∀ r k : Nat, k + r = 48 → ∀ M' : am_M, rm_only b M M' → M'.1 43 0 b = M.1 43 0 a → M'.1 44 0 b = M.1 44 0 a → (∀ k', k' < k → M'.1 45 0 (48 * b + k') = M.1 45 0 (48 * a + k')) → X d 101 18 [some (.inr (.inl (28, 0))), some (.inl (nI a)), some (.inl (nI b)), some (.inl (nI k)), none, none] [] M' Q := by
    intro r
    induction r with
    | zero =>
      intro k hk M' ho h1 h2 h3
      have hk : k = 48 := by omega
      subst hk
      refine am_go hX [18, 41] 40 ?_
      exact ⟨fun _ => second 6 0 (by omega) M' ho h1 h2 h3 (fun j k' _ hk' => by omega) _ _, fun (q : ¬ (48 : Int32) ≤ nI 48) => absurd (by decide) q⟩
    | succ r ih =>
      intro k hk M' ho h1 h2 h3
      refine am_go hX [18] 40 ?_
      refine ⟨fun (q : (48 : Int32) ≤ nI k) => absurd q (nI_ge (b := 48) (by omega) (by decide)), fun _ => ?_⟩
      refine ⟨48 * a + k, by show 48 * a + k < 384; omega, ix48 a k, 48 * b + k, by show 48 * b + k < 384; omega, ix48 b k, ?_⟩
      refine (fun (z : X d 101 18 [some (.inr (.inl (28, 0))), some (.inl (nI a)), some (.inl (nI b)), some (.inl (nI k + 1)), none, none] [] (am_si M' 45 0 (48 * b + k) (M'.1 45 0 (48 * a + k))) Q) => z) ?_
      rw [nI_1]
      refine ih (k + 1) (by omega) _ (rm_only_si ho (by unfold rm_in; omega)) (by rw [am_si_at, if_neg (by omega)]; exact h1) (by rw [am_si_at, if_neg (by omega)]; exact h2) (fun k' hk' => ?_)
      rw [am_si_at]
      by_cases z : k' = k
      · subst z; rw [if_pos ⟨rfl, rfl, rfl⟩]; exact ho.2 _ _ _ (fun z => by unfold rm_in at z; omega)
      · rw [if_neg (by omega)]; exact h3 k' (by omega)
  refine am_go hX [18] 40 ?_
  refine ⟨a, ha, rfl, b, hb, rfl, a, ha, rfl, b, hb, rfl, ?_⟩
  refine (fun (z : X d 101 18 [some (.inr (.inl (28, 0))), some (.inl (nI a)), some (.inl (nI b)), some (.inl (nI 0)), none, none] [] (am_si (am_si M 43 0 b (M.1 43 0 a)) 44 0 b (M.1 44 0 a)) Q) => z) ?_
  refine first 48 0 (by omega) _ (rm_only_si (rm_only_si (rm_only_rf b M) (by unfold rm_in; omega)) (by unfold rm_in; omega)) ?_ ?_ (fun k' hk' => by omega)
  · simp [am_si_at]
  · simp [am_si_at]
theorem cm_cut {X : am_X} (hX : am_Cl X) (d : Nat) (M : am_M) (x y : Int32) (b : Int) (hb : b < 2147483647) (h1 : -b ≤ x.toInt) (h2 : x.toInt ≤ b) (hy : 0 < y.toInt) (Q : am_P) (h : Q (some (.inl (lb_fd x y))) M) : X d 102 0 [some (.inr (.inl (28, 0))), some (.inl (x)), some (.inl (y)), none] [] M Q := by
  have e := (lb_fd_bd hb h1 h2 hy).2.2
  rw [e] at h
  refine am_go hX [] 40 ?_
  refine ⟨fun z => ?_, fun (q : x / y * y ≤ x) => ?_, fun (q : ¬ x / y * y ≤ x) => ?_⟩
  · rw [z] at hy; simp at hy
  · rw [if_neg (Int32.not_lt.mpr q)] at h; exact h
  · rw [if_pos (Int32.not_le.mp q)] at h; exact h
set_option maxHeartbeats 1000000 in
theorem cm_begin {X : am_X} (hX : am_Cl X) (d : Nat) (M : am_M) (hd : 1 ≤ d) (τ : ta) (hτ : ta_ok τ) (hT : rm_T M τ) (s e : Nat) (hs : s < ta_n τ) (he : e < ta_dn τ s) (t : Nat) (ht : t < 48) (Q : am_P) (h : ∀ M', mk_row M M' t (tk_new τ s e) → Q none M') : X d 103 0 [some (.inr (.inl (28, 0))), some (.inl (nI t)), some (.inl (nI s)), some (.inl (nI e))] [] M Q := by
  obtain ⟨h1, h2, h3, h4, h5⟩ := id hT
  obtain ⟨a1, a2, a3, a4⟩ := h3 s hs
  obtain ⟨b1, b2, b3, -⟩ := hτ.2.2.1 s hs
  have hn := hτ.1
  have ix : 4 * nI s + nI e = nI (4 * s + e) := by rw [show (4 : Int32) = nI 4 from rfl, pk_mul, nI_add]
  have hT1 : rm_T (am_si M 46 0 t (ta_rx τ s e)) τ := rm_T_fr hT (am_fg_of (am_fr_si (am_fr_rf [46] M) (by simp)) []) (by simp)
  refine am_go hX [] 90 ?_
  refine am_cc hd (cm_rightX hX _ _ τ hτ hT s e hs he _ ?_)
  refine ⟨t, ht, rfl, am_cc hd (cm_rightY hX _ _ τ hτ hT1 s e hs he _ ?_)⟩
  refine ⟨t, ht, rfl, t, ht, rfl, t, ht, rfl, s, by show s < 12; omega, rfl, t, ht, rfl, t, ht, rfl, t, ht, rfl, 4 * s + e, by show 4 * s + e < 48; omega, ix, t, ht, rfl, t, ht, rfl, Or.inl rfl, ?_⟩
  refine (fun (z : Q none (am_si (am_si (am_si (am_si (am_si (am_si (am_si (am_si (am_si M 46 0 t (ta_rx τ s e)) 47 0 t (ta_ry τ s e)) 48 0 t 0) 49 0 t 0) 50 0 t (M.1 32 0 s)) 51 0 t 1) 52 0 t 0) 53 0 t (M.1 36 0 (4 * s + e))) 54 0 t 0)) => z) ?_
  rw [a2, (a4 e he).2.2]
  refine h _ ⟨rfl, fun f i k' q => ?_, fun j hj => ?_⟩
  · simp only [am_si_at]
    rw [if_neg (by omega), if_neg (by omega), if_neg (by omega), if_neg (by omega), if_neg (by omega), if_neg (by omega), if_neg (by omega), if_neg (by omega), if_neg (by omega)]
  · match j, hj with
    | 0, _ => simp [am_si_at, tk_new]
    | 1, _ => simp [am_si_at, tk_new]
    | 2, _ => simp [am_si_at, tk_new]
    | 3, _ => simp [am_si_at, tk_new]
    | 4, _ => simp [am_si_at, tk_new]
    | 5, _ => simp [am_si_at, tk_new]
    | 6, _ => simp [am_si_at, tk_new]
    | 7, _ => simp [am_si_at, tk_new]
    | 8, _ => simp [am_si_at, tk_new]
set_option maxHeartbeats 1000000 in
theorem cm_goOn {X : am_X} (hX : am_Cl X) (d : Nat) (M : am_M) (hd : 1 ≤ d) (τ : ta) (hτ : ta_ok τ) (hT : rm_T M τ) (s e : Nat) (hs : s < ta_n τ) (he : e < ta_dn τ s) (t : Nat) (ht : t < 48) (r : Nat → Int32) (hr : ∀ j, j < 9 → M.1 (46 + j) 0 t = r j) (hok : tk_ok r) (Q : am_P) (h : ∀ M', mk_row M M' t (tk_hit τ r s e) → Q none M') : X d 104 0 [some (.inr (.inl (28, 0))), some (.inl (nI t)), some (.inl (nI s)), some (.inl (nI e)), none] [] M Q := by
  obtain ⟨h1, h2, h3, h4, h5⟩ := id hT
  obtain ⟨a1, a2, a3, a4⟩ := h3 s hs
  obtain ⟨b1, b2, b3, -⟩ := hτ.2.2.1 s hs
  have hn := hτ.1
  obtain ⟨bx, by_⟩ := ta_rx_bd hτ hs he
  obtain ⟨t0, t1, t2, t3, t4, t7, t8⟩ := id hok
  have hmo : (nI (ta_mo τ s)).toInt = (ta_mo τ s : Int) := nI_toInt (by omega)
  have ix : 4 * nI s + nI e = nI (4 * s + e) := by rw [show (4 : Int32) = nI 4 from rfl, pk_mul, nI_add]
  have r0 : M.1 46 0 t = r 0 := hr 0 (by omega)
  have r1 : M.1 47 0 t = r 1 := hr 1 (by omega)
  have r2 : M.1 48 0 t = r 2 := hr 2 (by omega)
  have r3 : M.1 49 0 t = r 3 := hr 3 (by omega)
  have r4 : M.1 50 0 t = r 4 := hr 4 (by omega)
  have r5 : M.1 51 0 t = r 5 := hr 5 (by omega)
  have r7 : M.1 53 0 t = r 7 := hr 7 (by omega)
  have r8 : M.1 54 0 t = r 8 := hr 8 (by omega)
  have rest : ∀ (u v z4 : Int32) (M1 : am_M), M1.2 = M.2 → (∀ f i k, ¬ ((f = 48 ∨ f = 49) ∧ i = 0 ∧ k = t) → M1.1 f i k = M.1 f i k) → M1.1 48 0 t = tk_hit τ r s e 2 → M1.1 49 0 t = tk_hit τ r s e 3 → X d 104 44 [some (.inr (.inl (28, 0))), some (.inl (nI t)), some (.inl (nI s)), some (.inl (nI e)), some (.inl (z4))] [] M1 Q := by
    intro u v z4 M1 hM12 hM1 hu hv
    have fr1 : am_fr [48, 49] M M1 := ⟨hM12, fun f i k q => hM1 f i k (fun z => q (by simp; omega))⟩
    have hT1 : rm_T M1 τ := rm_T_fr hT (am_fg_of fr1 []) (by simp)
    have hT2 : rm_T (am_si M1 46 0 t (ta_rx τ s e)) τ := rm_T_fr hT1 (am_fg_of (am_fr_si (am_fr_rf [46] M1) (by simp)) []) (by simp)
    refine am_go hX [102] 90 ?_
    refine am_cc hd (cm_rightX hX _ _ τ hτ hT1 s e hs he _ ?_)
    refine ⟨t, ht, rfl, am_cc hd (cm_rightY hX _ _ τ hτ hT2 s e hs he _ ?_)⟩
    refine ⟨t, ht, rfl, s, by show s < 12; omega, rfl, t, ht, rfl, t, ht, rfl, t, ht, rfl, t, ht, rfl, t, ht, rfl, ?_⟩
    have e32 : M1.1 32 0 s = nI (ta_mo τ s) := (hM1 _ _ _ (by omega)).trans a2
    have e36 : M1.1 36 0 (4 * s + e) = nI (ta_dm τ s e) := (hM1 _ _ _ (by omega)).trans (a4 e he).2.2
    have e51 : M1.1 51 0 t = r 5 := (hM1 _ _ _ (by omega)).trans r5
    have e53 : M1.1 53 0 t = r 7 := (hM1 _ _ _ (by omega)).trans r7
    have e54 : M1.1 54 0 t = r 8 := (hM1 _ _ _ (by omega)).trans r8
    have key : ∀ y : Int32, y = tk_hit τ r s e 7 → X d 104 102 [some (.inr (.inl (28, 0))), some (.inl (nI t)), some (.inl (nI s)), some (.inl (nI e)), some (.inl (z4))] [.inl y, .inl (nI t), .inr (.inl (53, 0))] (am_si (am_si (am_si (am_si (am_si M1 46 0 t (ta_rx τ s e)) 47 0 t (ta_ry τ s e)) 50 0 t (M1.1 32 0 s)) 51 0 t (M1.1 51 0 t + 1)) 52 0 t 0) Q := by
      rintro y rfl
      refine am_go hX [] 20 ?_
      refine ⟨t, ht, rfl, ?_⟩
      refine (fun (z : Q none (am_si (am_si (am_si (am_si (am_si (am_si M1 46 0 t (ta_rx τ s e)) 47 0 t (ta_ry τ s e)) 50 0 t (M1.1 32 0 s)) 51 0 t (M1.1 51 0 t + 1)) 52 0 t 0) 53 0 t (tk_hit τ r s e 7))) => z) ?_
      rw [e32, e51]
      refine h _ ⟨hM12, fun f i k' q => ?_, fun j hj => ?_⟩
      · simp only [am_si_at]
        rw [if_neg (by omega), if_neg (by omega), if_neg (by omega), if_neg (by omega), if_neg (by omega), if_neg (by omega)]
        exact hM1 f i k' (by omega)
      · match j, hj with
        | 0, _ => simp [am_si_at, tk_hit]
        | 1, _ => simp [am_si_at, tk_hit]
        | 2, _ => refine Eq.trans ?_ hu; simp [am_si_at]
        | 3, _ => refine Eq.trans ?_ hv; simp [am_si_at]
        | 4, _ => simp [am_si_at, tk_hit]
        | 5, _ => simp [am_si_at, tk_hit]
        | 6, _ => simp [am_si_at, tk_hit]
        | 7, _ => simp [am_si_at]
        | 8, _ => refine Eq.trans ?_ e54; simp [am_si_at]
    refine ⟨fun (q : ¬ M1.1 53 0 t = 0) => ?_, fun (q : ¬ ¬ M1.1 53 0 t = 0) => ?_⟩
    · refine ⟨t, ht, rfl, ?_⟩
      refine key (M1.1 53 0 t) ?_
      rw [e53] at q ⊢
      show r 7 = if r 7 = 0 then _ else r 7
      rw [if_neg q]
    · have q := Classical.not_not.mp q
      refine ⟨4 * s + e, by show 4 * s + e < 48; omega, ix, ?_⟩
      refine key (M1.1 36 0 (4 * s + e)) ?_
      rw [e53] at q
      rw [e36]
      show _ = if r 7 = 0 then _ else r 7
      rw [if_pos q]
  refine am_go hX [44] 90 ?_
  refine ⟨s, by show s < 12; omega, rfl, t, ht, rfl, fun (q : M.1 32 0 s - M.1 50 0 t ≤ 0) => ?_, fun (q : ¬ M.1 32 0 s - M.1 50 0 t ≤ 0) => ?_⟩
  · rw [a2, r4] at q
    refine rest 0 0 (M.1 32 0 s - M.1 50 0 t) M rfl (fun _ _ _ _ => rfl) ?_ ?_
    · rw [r2]
      show _ = if 0 < nI (ta_mo τ s) - r 4 then _ else r 2
      rw [if_neg (Int32.not_lt.mpr q)]
    · rw [r3]
      show _ = if 0 < nI (ta_mo τ s) - r 4 then _ else r 3
      rw [if_neg (Int32.not_lt.mpr q)]
  · have q' := q
    rw [a2, r4] at q'
    have q' := Int32.not_le.mp q'
    have qi := q'
    rw [Int32.lt_iff_toInt_lt, Int32.toInt_zero] at qi
    unfold ta_in at *
    have ex : (ta_rx τ s e - r 0).toInt = (ta_rx τ s e).toInt - (r 0).toInt := iz_sub (by omega) (by omega)
    have ey : (ta_ry τ s e - r 1).toInt = (ta_ry τ s e).toInt - (r 1).toInt := iz_sub (by omega) (by omega)
    refine am_cc hd (cm_rightX hX _ _ τ hτ hT s e hs he _ ?_)
    refine ⟨t, ht, rfl, am_cc hd ?_⟩
    refine (fun (z : X (d - 1) 102 0 [some (.inr (.inl (28, 0))), some (.inl (ta_rx τ s e - M.1 46 0 t)), some (.inl (M.1 32 0 s - M.1 50 0 t)), none] [] M _) => z) ?_
    rw [r0, a2, r4]
    refine cm_cut hX _ _ _ _ 2100 (by omega) (by rw [ex]; omega) (by rw [ex]; omega) qi _ ?_
    have hT1 : rm_T (am_si M 48 0 t (lb_fd (ta_rx τ s e - r 0) (nI (ta_mo τ s) - r 4))) τ := rm_T_fr hT (am_fg_of (am_fr_si (am_fr_rf [48] M) (by simp)) []) (by simp)
    refine ⟨t, ht, rfl, am_cc hd (cm_rightY hX _ _ τ hτ hT1 s e hs he _ ?_)⟩
    refine ⟨t, ht, rfl, am_cc hd ?_⟩
    refine (fun (z : X (d - 1) 102 0 [some (.inr (.inl (28, 0))), some (.inl (ta_ry τ s e - M.1 47 0 t)), some (.inl (M.1 32 0 s - M.1 50 0 t)), none] [] (am_si M 48 0 t (lb_fd (ta_rx τ s e - r 0) (nI (ta_mo τ s) - r 4))) _) => z) ?_
    rw [r1, a2, r4]
    refine cm_cut hX _ _ _ _ 2100 (by omega) (by rw [ey]; omega) (by rw [ey]; omega) qi _ ?_
    refine ⟨t, ht, rfl, ?_⟩
    refine rest 0 0 (M.1 32 0 s - M.1 50 0 t) (am_si (am_si M 48 0 t (lb_fd (ta_rx τ s e - r 0) (nI (ta_mo τ s) - r 4))) 49 0 t (lb_fd (ta_ry τ s e - r 1) (nI (ta_mo τ s) - r 4))) rfl (fun f i k z => ?_) ?_ ?_
    · rw [am_si_at, if_neg (by omega), am_si_at, if_neg (by omega)]
    · rw [am_si_at, if_neg (by omega), am_si_at, if_pos ⟨rfl, rfl, rfl⟩]
      show _ = if 0 < nI (ta_mo τ s) - r 4 then _ else r 2
      rw [if_pos q']
    · rw [am_si_at, if_pos ⟨rfl, rfl, rfl⟩]
      show _ = if 0 < nI (ta_mo τ s) - r 4 then _ else r 3
      rw [if_pos q']
