/-! THE REFERENCE: what was told, a world, as its cells hold them; tolls -/
def rm_T (M : am_M) (τ : ta) : Prop :=
  M.1 28 0 1 = nI (ta_n τ) ∧ (∀ w, w < 3 → M.1 29 0 w = ta_sa τ w ∧ M.1 30 0 w = ta_sb τ w) ∧
  (∀ s, s < ta_n τ → M.1 31 0 s = nI (ta_wt τ s) ∧ M.1 32 0 s = nI (ta_mo τ s) ∧ M.1 33 0 s = nI (ta_dn τ s) ∧ ∀ e, e < ta_dn τ s → M.1 34 0 (4 * s + e) = ta_dx τ s e ∧ M.1 35 0 (4 * s + e) = ta_dy τ s e ∧ M.1 36 0 (4 * s + e) = nI (ta_dm τ s e)) ∧
  (∀ k, k < 10 → M.1 40 0 k = nI (ta_kd τ k)) ∧ ∀ k, k < 6 → M.1 41 0 k = nI (ta_ru τ k)
def rm_W (M : am_M) (τ : ta) (P : Nat → Prop) (p : Nat) (w : wd) : Prop :=
  M.1 43 0 p = nI (wd_c w) ∧ M.1 44 0 p = nI (wd_n w) ∧ (∀ k, k < wd_n w → ∀ j, j < 9 → M.1 (46 + j) 0 (6 * p + k) = wd_t w k j) ∧ ∀ s e, P s → e < ta_dn τ s → M.1 45 0 (48 * p + (4 * s + e)) = wd_a w s e
theorem rm_T_fr {M M' : am_M} {L LV : List Nat} {τ : ta} (h : rm_T M τ) (fr : am_fg L LV M M') (hL : ∀ f ∈ [28, 29, 30, 31, 32, 33, 34, 35, 36, 40, 41], f ∉ L) : rm_T M' τ := by
  obtain ⟨h1, h2, h3, h4, h5⟩ := h
  have f : ∀ g, g ∈ [28, 29, 30, 31, 32, 33, 34, 35, 36, 40, 41] → ∀ i k, M'.1 g i k = M.1 g i k := fun g hg i k => fr.2.2 g i k (hL g hg)
  refine ⟨(f 28 (by simp) _ _).trans h1, fun w hw => ⟨(f 29 (by simp) _ _).trans (h2 w hw).1, (f 30 (by simp) _ _).trans (h2 w hw).2⟩, fun s hs => ?_, fun k hk => (f 40 (by simp) _ _).trans (h4 k hk), fun k hk => (f 41 (by simp) _ _).trans (h5 k hk)⟩
  obtain ⟨a1, a2, a3, a4⟩ := h3 s hs
  exact ⟨(f 31 (by simp) _ _).trans a1, (f 32 (by simp) _ _).trans a2, (f 33 (by simp) _ _).trans a3, fun e he => ⟨(f 34 (by simp) _ _).trans (a4 e he).1, (f 35 (by simp) _ _).trans (a4 e he).2.1, (f 36 (by simp) _ _).trans (a4 e he).2.2⟩⟩
/-- the same, where of the object itself other fields changed -/
theorem rm_T_fr' {M M' : am_M} {L LV : List Nat} {τ : ta} (h : rm_T M τ) (fr : am_fg (28 :: L) LV M M') (h28 : M'.1 28 0 1 = M.1 28 0 1) (hL : ∀ f ∈ [29, 30, 31, 32, 33, 34, 35, 36, 40, 41], f ∉ 28 :: L) : rm_T M' τ := by
  obtain ⟨h1, h2, h3, h4, h5⟩ := h
  have f : ∀ g, g ∈ [29, 30, 31, 32, 33, 34, 35, 36, 40, 41] → ∀ i k, M'.1 g i k = M.1 g i k := fun g hg i k => fr.2.2 g i k (hL g hg)
  refine ⟨h28.trans h1, fun w hw => ⟨(f 29 (by simp) _ _).trans (h2 w hw).1, (f 30 (by simp) _ _).trans (h2 w hw).2⟩, fun s hs => ?_, fun k hk => (f 40 (by simp) _ _).trans (h4 k hk), fun k hk => (f 41 (by simp) _ _).trans (h5 k hk)⟩
  obtain ⟨a1, a2, a3, a4⟩ := h3 s hs
  exact ⟨(f 31 (by simp) _ _).trans a1, (f 32 (by simp) _ _).trans a2, (f 33 (by simp) _ _).trans a3, fun e he => ⟨(f 34 (by simp) _ _).trans (a4 e he).1, (f 35 (by simp) _ _).trans (a4 e he).2.1, (f 36 (by simp) _ _).trans (a4 e he).2.2⟩⟩
theorem cm_rightX {X : am_X} (hX : am_Cl X) (d : Nat) (M : am_M) (τ : ta) (hτ : ta_ok τ) (hT : rm_T M τ) (s e : Nat) (hs : s < ta_n τ) (he : e < ta_dn τ s) (Q : am_P) (h : Q (some (.inl (ta_rx τ s e))) M) : X d 94 0 [some (.inr (.inl (28, 0))), some (.inl (nI s)), some (.inl (nI e))] [] M Q := by
  obtain ⟨h1, h2, h3, -, -⟩ := hT
  obtain ⟨a1, a2, a3, a4⟩ := h3 s hs
  obtain ⟨b1, b2, b3, -⟩ := hτ.2.2.1 s hs
  have hn := hτ.1
  have ix : 4 * nI s + nI e = nI (4 * s + e) := by rw [show (4 : Int32) = nI 4 from rfl, pk_mul, nI_add]
  refine am_go hX [] 30 ?_
  refine ⟨4 * s + e, by show 4 * s + e < 48; omega, ix, s, by show s < 12; omega, rfl, ta_wt τ s, b1, a1, ?_⟩
  refine (fun (z : Q (some (.inl (M.1 34 0 (4 * s + e) + M.1 29 0 (ta_wt τ s)))) M) => z) ?_
  rw [(a4 e he).1, (h2 _ b1).1]; exact h
theorem cm_rightY {X : am_X} (hX : am_Cl X) (d : Nat) (M : am_M) (τ : ta) (hτ : ta_ok τ) (hT : rm_T M τ) (s e : Nat) (hs : s < ta_n τ) (he : e < ta_dn τ s) (Q : am_P) (h : Q (some (.inl (ta_ry τ s e))) M) : X d 95 0 [some (.inr (.inl (28, 0))), some (.inl (nI s)), some (.inl (nI e))] [] M Q := by
  obtain ⟨h1, h2, h3, -, -⟩ := hT
  obtain ⟨a1, a2, a3, a4⟩ := h3 s hs
  obtain ⟨b1, b2, b3, -⟩ := hτ.2.2.1 s hs
  have hn := hτ.1
  have ix : 4 * nI s + nI e = nI (4 * s + e) := by rw [show (4 : Int32) = nI 4 from rfl, pk_mul, nI_add]
  refine am_go hX [] 30 ?_
  refine ⟨4 * s + e, by show 4 * s + e < 48; omega, ix, s, by show s < 12; omega, rfl, ta_wt τ s, b1, a1, ?_⟩
  refine (fun (z : Q (some (.inl (M.1 35 0 (4 * s + e) + M.1 30 0 (ta_wt τ s)))) M) => z) ?_
  rw [(a4 e he).2.1, (h2 _ b1).2]; exact h
/-- the reference's foretold place, in longs -/
theorem cm_foretold {X : am_X} (hX : am_Cl X) (d : Nat) (M : am_M) (τ : ta) (hk : ∀ k, k < 10 → ta_kd τ k ≤ 2) (h40 : ∀ k, k < 10 → M.1 40 0 k = nI (ta_kd τ k)) (t : Nat) (ht : t < 48) (r : Nat → Int32) (hr : ∀ j, j < 9 → M.1 (46 + j) 0 t = r j) (hok : tk_ok r) (m : Int32) (m0 : 0 ≤ m.toInt) (m1 : m.toInt ≤ 999) (c : Nat) (hc : c = 0 ∨ c = 1) (Q : am_P)
    (h : ∀ v : Int64, v.toInt = tk_f τ r m.toInt c → Q (some (.inr (.inr (v)))) M) : X d 96 0 [some (.inr (.inl (28, 0))), some (.inl (nI t)), some (.inl (m)), some (.inl (nI c)), none, none, none, none, none, none, none] [] M Q := by
  have hb := tk_f_bd (τ := τ) hok m0 m1 hc
  obtain ⟨t0, t1, t2, t3, t4, t7, -⟩ := id hok
  have e7 : r 7 = nI (r 7).toNatClampNeg := by
    apply iz_nI
    · have e : (r 7).toNatClampNeg = (r 7).toInt.toNat := rfl
      omega
    · have e : (r 7).toNatClampNeg = (r 7).toInt.toNat := rfl
      omega
  have h7 : (r 7).toNatClampNeg < 10 := by
    have e : (r 7).toNatClampNeg = (r 7).toInt.toNat := rfl
    omega
  have hkd := hk _ h7
  have dl : (m - r 4).toInt64.toInt = m.toInt - (r 4).toInt := by rw [lz_of, iz_sub (by omega) (by omega)]
  have hx : -1050 ≤ (r c).toInt ∧ (r c).toInt ≤ 1050 := by rcases hc with rfl | rfl; exact t0; exact t1
  have hu : -2100 ≤ (r (c + 2)).toInt ∧ (r (c + 2)).toInt ≤ 2100 := by rcases hc with rfl | rfl; exact t2; exact t3
  have hp := iz_bd (a := m.toInt - (r 4).toInt) (b := (r (c + 2)).toInt) (x := 999) (y := 2100) (by omega) (by omega) hu.1 hu.2
  have pm : ((m - r 4).toInt64 * (r (c + 2)).toInt64).toInt = (m.toInt - (r 4).toInt) * (r (c + 2)).toInt := by
    rw [lz_mul (by rw [dl, lz_of]; omega) (by rw [dl, lz_of]; omega), dl, lz_of]
  -- the end, from the kind on
  have fin : ∀ (z5 z7 z9 : Option am_V), X d 96 44 [some (.inr (.inl (28, 0))), some (.inl (nI t)), some (.inl (m)), some (.inl (nI c)), some (.inr (.inr ((m - r 4).toInt64))), z5, some (.inr (.inr ((r c).toInt64))), z7, some (.inr (.inr ((r (c + 2)).toInt64))), z9, some (.inl (nI (ta_kd τ (r 7).toNatClampNeg)))] [] M Q := by
    intro z5 z7 z9
    refine am_go hX [] 40 ?_
    have kk : ∀ j, j < 2 ^ 31 → (nI (ta_kd τ (r 7).toNatClampNeg) = nI j ↔ ta_kd τ (r 7).toNatClampNeg = j) := fun j hj => nI_eq (by omega) hj
    refine ⟨fun (q : ¬ nI (ta_kd τ (r 7).toNatClampNeg) = 0) => ⟨fun (q2 : ¬ nI (ta_kd τ (r 7).toNatClampNeg) = 1) => ?_, fun (q2 : ¬ ¬ nI (ta_kd τ (r 7).toNatClampNeg) = 1) => ?_⟩, fun (q : ¬ ¬ nI (ta_kd τ (r 7).toNatClampNeg) = 0) => ?_⟩
    · have k0 : ta_kd τ (r 7).toNatClampNeg ≠ 0 := fun z => q ((kk 0 (by decide)).mpr z)
      have k1 : ta_kd τ (r 7).toNatClampNeg ≠ 1 := fun z => q2 ((kk 1 (by decide)).mpr z)
      have k2 : ta_kd τ (r 7).toNatClampNeg = 2 := by omega
      refine h _ ?_
      rw [lz_sub (by rw [pm, lz_of]; omega) (by rw [pm, lz_of]; omega), pm, lz_of]
      unfold tk_f tk_ah
      rw [if_neg k1, if_pos k2, Int.neg_mul]; omega
    · have k1 : ta_kd τ (r 7).toNatClampNeg = 1 := (kk 1 (by decide)).mp (Classical.not_not.mp q2)
      refine h _ ?_
      rw [lz_of]
      unfold tk_f tk_ah
      rw [if_pos k1, Int.zero_mul]; omega
    · have k0 : ta_kd τ (r 7).toNatClampNeg = 0 := (kk 0 (by decide)).mp (Classical.not_not.mp q)
      refine h _ ?_
      rw [lz_add (by rw [pm, lz_of]; omega) (by rw [pm, lz_of]; omega), pm, lz_of]
      unfold tk_f tk_ah
      rw [if_neg (by omega), if_neg (by omega)]
  have r4 : M.1 50 0 t = r 4 := hr 4 (by omega)
  have r7 : M.1 53 0 t = r 7 := hr 7 (by omega)
  refine am_go hX [44] 60 ?_
  refine ⟨t, ht, rfl, ?_⟩
  rcases hc with rfl | rfl
  · have r0 : M.1 46 0 t = r 0 := hr 0 (by omega)
    have r2 : M.1 48 0 t = r 2 := hr 2 (by omega)
    refine ⟨fun _ => ?_, fun (q : ¬ nI 0 = 0) => absurd rfl q⟩
    refine ⟨t, ht, rfl, fun _ => ?_, fun (q : ¬ nI 0 = 0) => absurd rfl q⟩
    refine ⟨t, ht, rfl, t, ht, rfl, (r 7).toNatClampNeg, h7, r7.trans e7, ?_⟩
    refine (fun (z : X d 96 44 [some (.inr (.inl (28, 0))), some (.inl (nI t)), some (.inl (m)), some (.inl (nI 0)), some (.inr (.inr ((m - M.1 50 0 t).toInt64))), none, some (.inr (.inr ((M.1 46 0 t).toInt64))), none, some (.inr (.inr ((M.1 48 0 t).toInt64))), none, some (.inl (M.1 40 0 (r 7).toNatClampNeg))] [] M Q) => z) ?_
    rw [r4, r0, r2, h40 _ h7]
    exact fin _ _ _
  · have r0 : M.1 47 0 t = r 1 := hr 1 (by omega)
    have r2 : M.1 49 0 t = r 3 := hr 3 (by omega)
    refine ⟨fun (q : nI 1 = 0) => absurd q (by decide), fun _ => ?_⟩
    refine ⟨t, ht, rfl, fun (q : nI 1 = 0) => absurd q (by decide), fun _ => ?_⟩
    refine ⟨t, ht, rfl, t, ht, rfl, (r 7).toNatClampNeg, h7, r7.trans e7, ?_⟩
    refine (fun (z : X d 96 44 [some (.inr (.inl (28, 0))), some (.inl (nI t)), some (.inl (m)), some (.inl (nI 1)), some (.inr (.inr ((m - M.1 50 0 t).toInt64))), none, some (.inr (.inr ((M.1 47 0 t).toInt64))), none, some (.inr (.inr ((M.1 49 0 t).toInt64))), none, some (.inl (M.1 40 0 (r 7).toNatClampNeg))] [] M Q) => z) ?_
    rw [r4, r0, r2, h40 _ h7]
    exact fin _ _ _
