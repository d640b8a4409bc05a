/-! a world copied; a join carried out -/
/-- only the cells of the b-th world differ -/
def ck_only (b : Nat) (M M' : am_M) : Prop := am_fr [24, 26, 27] M M' ∧ (∀ p j, p ≠ b → M'.1 24 p j = M.1 24 p j) ∧ (∀ p j, p ≠ b → M'.1 26 p j = M.1 26 p j) ∧ ∀ t j, (t < 6 * b ∨ 6 * b + 6 ≤ t) → M'.1 27 t j = M.1 27 t j
theorem ck_only_rf (b : Nat) (M : am_M) : ck_only b M M := ⟨am_fr_rf _ _, fun _ _ _ => rfl, fun _ _ _ => rfl, fun _ _ _ => rfl⟩
theorem ck_only_tr {b : Nat} {M M' M'' : am_M} (h : ck_only b M M') (h' : ck_only b M' M'') : ck_only b M M'' := ⟨am_fr_tr h.1 h'.1, fun p j q => (h'.2.1 p j q).trans (h.2.1 p j q), fun p j q => (h'.2.2.1 p j q).trans (h.2.2.1 p j q), fun t j q => (h'.2.2.2 t j q).trans (h.2.2.2 t j q)⟩
theorem ck_only_24 {b j : Nat} {x : Int32} {M M' : am_M} (h : ck_only b M M') : ck_only b M (am_si M' 24 b j x) := ⟨am_fr_si h.1 (by simp), fun p k q => by rw [am_si_at, if_neg (fun z => q z.2.1)]; exact h.2.1 p k q, fun p k q => by rw [am_si_at, if_neg (by omega)]; exact h.2.2.1 p k q, fun t k q => by rw [am_si_at, if_neg (by omega)]; exact h.2.2.2 t k q⟩
theorem ck_only_26 {b j : Nat} {x : Int32} {M M' : am_M} (h : ck_only b M M') : ck_only b M (am_si M' 26 b j x) := ⟨am_fr_si h.1 (by simp), fun p k q => by rw [am_si_at, if_neg (by omega)]; exact h.2.1 p k q, fun p k q => by rw [am_si_at, if_neg (fun z => q z.2.1)]; exact h.2.2.1 p k q, fun t k q => by rw [am_si_at, if_neg (by omega)]; exact h.2.2.2 t k q⟩
theorem ck_only_27 {b k : Nat} {r : Nat → Int32} {M M' M'' : am_M} (h : ck_only b M M') (hk : k < 6) (hr : ck_row M' M'' (6 * b + k) r) : ck_only b M M'' := by
  refine ⟨am_fr_tr h.1 (am_fr_mono hr.1 (by simp)), fun p j q => (hr.1.2 24 p j (by simp)).trans (h.2.1 p j q), fun p j q => (hr.1.2 26 p j (by simp)).trans (h.2.2.1 p j q), fun t j q => ?_⟩
  rw [hr.2 t j, if_neg (by omega)]; exact h.2.2.2 t j q
set_option maxHeartbeats 1000000 in
theorem cw_wcopy {X : am_X} (hX : am_Cl X) (d : Nat) (M : am_M) (hd : 1 ≤ d) (τ : ta) (P : Nat → Prop) (hP : ∀ s, P s → s < 12 ∧ ta_dn τ s ≤ 4) (a b : Nat) (hab : a ≠ b) (w : wd) (hW : rc_W M τ P a w) (m0 : Nat) (hw : wd_ok m0 w) (Q : am_P) (h : ∀ M', ck_only b M M' → rc_W M' τ P b w → Q none M') : X d 65 0 [some (.inr (.inl (24, b))), some (.inr (.inl (24, a))), none] [] M Q := by
  obtain ⟨w1, w2, w3, w4⟩ := hW
  obtain ⟨o1, o2, o3⟩ := hw
  refine am_go hX [10] 40 ?_
  have hv : (am_si M 24 b 0 (M.1 24 a 0)).1 24 a 1 = M.1 24 a 1 := by rw [am_si_at, if_neg (by omega)]
  refine (fun (z : X d 65 10 [some (.inr (.inl (24, b))), some (.inr (.inl (24, a))), some (.inl (nI 0))] [] (am_si (am_si M 24 b 0 (M.1 24 a 0)) 24 b 1 ((am_si M 24 b 0 (M.1 24 a 0)).1 24 a 1)) Q) => z) ?_
  rw [hv, w1, w2]
  have loop : ∀ r k : Nat, k + r = wd_n w → ∀ M' : am_M, ck_only b M M' → M'.1 24 b 0 = nI (wd_c w) → M'.1 24 b 1 = nI (wd_n w) → (∀ k', k' < k → ∀ j, j < 9 → M'.1 27 (6 * b + k') j = wd_t w k' j) → X d 65 10 [some (.inr (.inl (24, b))), some (.inr (.inl (24, a))), some (.inl (nI k))] [] M' Q := by
    intro r
    induction r with
    | zero =>
      intro k hk M' ho h0 h1 hdone
      have hk : k = wd_n w := by omega
      subst hk
      refine am_go hX [10] 40 ?_
      refine ⟨fun _ => ?_, fun (q : ¬ M'.1 24 b 1 ≤ nI (wd_n w)) => absurd (by rw [h1]; exact nI_le (Nat.le_refl _) (by omega)) q⟩
      refine ⟨hd, rfl, rfl, rfl, ?_⟩
      have hrow : ∀ j, j < 48 → (am_sr M' 26 b (va_cpy (M'.1 26 a) (M'.1 26 b) 0 0 48)).1 26 b j = M'.1 26 a j := by
        intro j hj
        rw [am_sr_at, if_pos ⟨rfl, rfl⟩]
        unfold va_cpy
        rw [if_pos ⟨by omega, by omega⟩]; simp
      refine (fun (z : Q none (am_sr M' 26 b (va_cpy (M'.1 26 a) (M'.1 26 b) 0 0 48))) => z) ?_
      refine h _ ⟨⟨ho.1.1, fun f i k hf => ?_⟩, fun p j q => ?_, fun p j q => ?_, fun t j q => ?_⟩ ⟨?_, ?_, fun k hk j hj => ?_, fun s e hs he => ?_⟩
      · rw [am_sr_at, if_neg (fun z => hf (by rw [z.1]; simp))]; exact ho.1.2 f i k hf
      · rw [am_sr_at, if_neg (by omega)]; exact ho.2.1 p j q
      · rw [am_sr_at, if_neg (fun z => q z.2)]; exact ho.2.2.1 p j q
      · rw [am_sr_at, if_neg (by omega)]; exact ho.2.2.2 t j q
      · rw [am_sr_at, if_neg (by omega)]; exact h0
      · rw [am_sr_at, if_neg (by omega)]; exact h1
      · rw [am_sr_at, if_neg (by omega)]; exact hdone k hk j hj
      · obtain ⟨p1, p2⟩ := hP s hs
        refine (hrow _ (by omega)).trans ((ho.2.2.1 a _ hab).trans (w4 s e hs he))
    | succ r ih =>
      intro k hk M' ho h0 h1 hdone
      have hsrc : ∀ j, j < 9 → M'.1 27 (6 * a + k) j = wd_t w k j := fun j hj => (ho.2.2.2 _ j (by omega)).trans (w3 k (by omega) j hj)
      refine am_go hX [10] 40 ?_
      refine ⟨fun (q : M'.1 24 b 1 ≤ nI k) => absurd q (by rw [h1]; exact nI_ge (by omega) (by omega)), fun _ => ?_⟩
      refine ⟨k, by show k < 6; omega, rfl, k, by show k < 6; omega, rfl, am_cc hd (cw_tcopy hX _ _ (6 * a + k) (6 * b + k) ?_ _ (fun M2 hr => ?_))⟩
      · rw [hsrc 8 (by omega)]; exact (o3 k (by omega)).2.2.2.2.2.2
      · refine (fun (z : X d 65 10 [some (.inr (.inl (24, b))), some (.inr (.inl (24, a))), some (.inl (nI k + 1))] [] M2 Q) => z) ?_
        rw [nI_1]
        refine ih (k + 1) (by omega) M2 (ck_only_27 ho (by omega) hr) ((hr.1.2 24 b 0 (by simp)).trans h0) ((hr.1.2 24 b 1 (by simp)).trans h1) (fun k' hk' j hj => ?_)
        rw [hr.2]
        by_cases z : k' = k
        · subst z; rw [if_pos ⟨rfl, hj⟩]; exact hsrc j hj
        · rw [if_neg (by omega)]; exact hdone k' (by omega) j hj
  refine loop (wd_n w) 0 (by omega) _ (ck_only_24 (ck_only_24 (ck_only_rf b M))) ?_ ?_ (fun k' hk' => by omega)
  · rw [am_si_at, if_neg (by omega), am_si_at, if_pos ⟨rfl, rfl, rfl⟩]
  · rw [am_si_at, if_pos ⟨rfl, rfl, rfl⟩]
theorem cw_dotPicked {X : am_X} (hX : am_Cl X) (d : Nat) (M : am_M) (j k n : Nat) (hn : n ≤ 4) (ps : List Nat) (hpl : ps.length = n) (hp : ∀ e, e < n → M.1 23 j e = nI (am_nth ps e 9)) (hpb : ∀ e, e < n → am_nth ps e 9 < 8) (hk : k < 8) (Q : am_P)
    (h1 : ∀ e, e < n → jp_at ps k = some e → Q (some (.inl (nI e))) M) (h0 : jp_at ps k = none → Q (some (.inl (-1))) M) : X d 63 0 [some (.inr (.inl (22, j))), some (.inl (nI k)), some (.inl (nI n)), none] [] M Q := by
  refine am_go hX [2] 40 ?_
  have loop : ∀ r e : Nat, e + r = n → jp_f ps k r e = jp_at ps k → X d 63 2 [some (.inr (.inl (22, j))), some (.inl (nI k)), some (.inl (nI n)), some (.inl (nI e))] [] M Q := by
    intro r
    induction r with
    | zero =>
      intro e he hf
      have he : e = n := by omega
      subst he
      refine am_go hX [2] 40 ?_
      exact ⟨fun _ => h0 hf.symm, fun (q : ¬ nI e ≤ nI e) => absurd (nI_le (Nat.le_refl _) (by omega)) q⟩
    | succ r ih =>
      intro e he hf
      refine am_go hX [2] 40 ?_
      refine ⟨fun (q : nI n ≤ nI e) => absurd q (nI_ge (by omega) (by omega)), fun _ => ?_⟩
      have hb := hpb e (by omega)
      refine ⟨e, by show e < 4; omega, rfl, fun (q : ¬ M.1 23 j e = nI k) => ?_, fun (q : ¬ ¬ M.1 23 j e = nI k) => ?_⟩
      · rw [hp e (by omega)] at q
        refine (fun (z : X d 63 2 [some (.inr (.inl (22, j))), some (.inl (nI k)), some (.inl (nI n)), some (.inl (nI e + 1))] [] M Q) => z) ?_
        rw [nI_1]
        refine ih (e + 1) (by omega) ?_
        rw [jp_f, if_neg (fun z => q (by rw [z]))] at hf; exact hf
      · have q := Classical.not_not.mp q
        rw [hp e (by omega)] at q
        have q := (nI_eq (by omega) (by omega)).mp q
        rw [jp_f, if_pos q] at hf
        exact h1 e (by omega) hf.symm
  exact loop n 0 (by omega) (by unfold jp_at; rw [hpl])
theorem cw_addTrack {X : am_X} (hX : am_Cl X) (d : Nat) (M : am_M) (hd : 1 ≤ d) (p n : Nat) (hn : n < 6) (h1 : M.1 24 p 1 = nI n) (x y m k : Int32) (Q : am_P) (h : ∀ M', ck_row M M' (6 * p + n) (fun j => match j with
    | 0 => x | 1 => y | 4 => m | 5 => 1 | 7 => k | _ => 0) → Q (some (.inl (nI n))) (am_si M' 24 p 1 (nI (n + 1)))) : X d 67 0 [some (.inr (.inl (24, p))), some (.inl (x)), some (.inl (y)), some (.inl (m)), some (.inl (k))] [] M Q := by
  refine am_go hX [] 40 ?_
  refine ⟨fun _ => ?_, fun (q : ¬ M.1 24 p 1 < 6) => absurd (by rw [h1]; exact nI_lt (b := 6) hn (by decide)) q⟩
  refine ⟨n, hn, h1, am_cc hd (cw_begin hX _ _ _ _ _ _ _ _ (fun M' hr => ?_))⟩
  have e1 : M'.1 24 p 1 = nI n := (hr.1.2 24 p 1 (by simp)).trans h1
  have := h M' hr
  refine (fun (z : Q (some (.inl ((am_si M' 24 p 1 (M'.1 24 p 1 + 1)).1 24 p 1 - 1))) (am_si M' 24 p 1 (M'.1 24 p 1 + 1))) => z) ?_
  rw [am_si_at, if_pos ⟨rfl, rfl, rfl⟩, e1, nI_1, nI_pred]
  exact this
theorem tk_hit_eq (τ : ta) (t r : Nat → Int32) (s e : Nat) (h : ∀ j, j < 9 → r j = t j) : ∀ j, j < 9 → ck_hit r (ta_rx τ s e) (ta_ry τ s e) (nI (ta_mo τ s)) (nI (ta_dm τ s e)) j = tk_hit τ t s e j := by
  intro j hj
  match j, hj with
  | 0, _ => rfl
  | 1, _ => rfl
  | 2, _ => simp only [ck_hit, tk_hit, h 4 (by omega), h 0 (by omega), h 2 (by omega)]
  | 3, _ => simp only [ck_hit, tk_hit, h 4 (by omega), h 1 (by omega), h 3 (by omega)]
  | 4, _ => rfl
  | 5, _ => simp only [ck_hit, tk_hit, h 5 (by omega)]
  | 6, _ => rfl
  | 7, _ => simp only [ck_hit, tk_hit, h 7 (by omega)]
  | 8, _ => simp only [ck_hit, tk_hit]; exact h 8 (by omega)
theorem tk_miss_eq (τ : ta) (t r : Nat → Int32) (h : ∀ j, j < 9 → r j = t j) : ∀ j, j < 9 → ck_miss r (nI (ta_ru τ 4)) j = tk_miss τ t j := by
  intro j hj
  unfold ck_miss tk_miss
  rw [h 8 (by omega)]
  by_cases z : t 8 = 0
  · rw [if_pos z, if_pos z]
    match j, hj with
    | 0, _ => exact h 0 (by omega)
    | 1, _ => exact h 1 (by omega)
    | 2, _ => exact h 2 (by omega)
    | 3, _ => exact h 3 (by omega)
    | 4, _ => exact h 4 (by omega)
    | 5, _ => exact h 5 (by omega)
    | 6, _ => simp only [h 6 (by omega)]
    | 7, _ => exact h 7 (by omega)
    | 8, _ => simp only [h 6 (by omega)]
  · rw [if_neg z, if_neg z]; exact h j hj
theorem jp_nb_le (ps : List Nat) {a b : Nat} (h : a ≤ b) : jp_nb ps a ≤ jp_nb ps b := by
  induction b with
  | zero => have : a = 0 := by omega
            subst this; exact Nat.le_refl _
  | succ b ih =>
    rcases Nat.lt_or_ge a (b + 1) with q | q
    · have := ih (by omega); simp only [jp_nb]; omega
    · have : a = b + 1 := by omega
      subst this; exact Nat.le_refl _
theorem jp_dot_at (ps : List Nat) {e : Nat} (he : e < ps.length) (h6 : am_nth ps e 9 = 6) : jp_dot ps (jp_nb ps e) = e := by
  have key : ∀ r x, x ≤ e → x + r = ps.length → jp_g ps (jp_nb ps e) r x = e := by
    intro r
    induction r with
    | zero => intro x h1 h2; omega
    | succ r ih =>
      intro x h1 h2
      rw [jp_g]
      by_cases z : x = e
      · subst z; rw [if_pos ⟨h6, rfl⟩]
      · rw [if_neg]
        · exact ih (x + 1) (by omega) (by omega)
        · rintro ⟨q1, q2⟩
          have h3 : jp_nb ps (x + 1) = jp_nb ps x + 1 := by rw [jp_nb, if_pos q1]
          have h4 := jp_nb_le ps (show x + 1 ≤ e by omega)
          omega
  exact key ps.length 0 (by omega) (by omega)
/-- picks that can be carried out in a world of n tracks -/
def jp_ok (n m : Nat) (ps : List Nat) : Prop := ps.length = m ∧ (∀ e, e < m → am_nth ps e 9 < n ∨ am_nth ps e 9 = 6 ∨ am_nth ps e 9 = 7) ∧ n + jp_nb ps m ≤ 6 ∧ n ≤ 6

set_option maxHeartbeats 1000000 in
theorem cw_apply {X : am_X} (hX : am_Cl X) (d : Nat) (M : am_M) (hd : 2 ≤ d) (τ : ta) (hτ : ta_ok τ) (hT : rc_T M τ) (s p j : Nat) (hs : s < ta_n τ) (hp : p < 8) (P : Nat → Prop) (hP : ∀ s, P s → s < ta_n τ) (w : wd) (hW : rc_W M τ P p w) (c : Nat) (ps : List Nat) (hj1 : M.1 22 j 1 = nI c) (hjp : ∀ e, e < ta_dn τ s → M.1 23 j e = nI (am_nth ps e 9)) (hok : jp_ok (wd_n w) (ta_dn τ s) ps) (Q : am_P)
    (h : ∀ M', ck_only p M M' → rc_W M' τ (fun s' => s' = s ∨ P s') p (wd_ap τ s w c ps) → Q none M') : X d 71 0 [some (.inr (.inl (24, p))), some (.inr (.inl (22, j))), some (.inr (.inl (1, 0))), some (.inl (nI s)), none, none, none, none, none] [] M Q := by
  obtain ⟨r1, r2, r3, r4, r5, r6, r7⟩ := id hT
  obtain ⟨sw, sm, sd, se⟩ := r5 s hs
  obtain ⟨w1, w2, w3, w4⟩ := id hW
  obtain ⟨k1, k2, k3, k4⟩ := hok
  obtain ⟨b1, b2, b3, b4⟩ := hτ.2.2.1 s hs
  have hn12 := hτ.1
  have hpb : ∀ e, e < ta_dn τ s → am_nth ps e 9 < 8 := fun e he => by have := k2 e he; omega
  refine am_go hX [10] 40 ?_
  refine ⟨s, by show s < 13; omega, rfl, ?_⟩
  refine (fun (z : X d 71 10 [some (.inr (.inl (24, p))), some (.inr (.inl (22, j))), some (.inr (.inl (1, 0))), some (.inl (nI s)), some (.inr (.inl (18, M.2.1 4 s))), some (.inl (M.1 24 p 1)), some (.inl (nI 0)), none, none] [] M Q) => z) ?_
  rw [w2]
  -- facts that stay
  have stay : ∀ M' : am_M, ck_only p M M' → M'.2 = M.2 ∧ M'.1 18 (M'.2.1 4 s) 0 = nI (ta_wt τ s) ∧ M'.1 18 (M.2.1 4 s) 1 = nI (ta_mo τ s) ∧ M'.1 18 (M.2.1 4 s) 2 = nI (ta_dn τ s) ∧ (∀ e, e < ta_dn τ s → M'.1 19 (M'.2.1 4 s) e + M'.1 2 0 (ta_wt τ s) = ta_rx τ s e ∧ M'.1 20 (M'.2.1 4 s) e + M'.1 3 0 (ta_wt τ s) = ta_ry τ s e ∧ M'.1 21 (M.2.1 4 s) e = nI (ta_dm τ s e)) := by
    intro M' ho
    have hV := ho.1.1
    refine ⟨hV, by rw [hV]; exact (ho.1.2 18 _ 0 (by simp)).trans sw, (ho.1.2 18 _ 1 (by simp)).trans sm, (ho.1.2 18 _ 2 (by simp)).trans sd, fun e he => ⟨?_, ?_, (ho.1.2 21 _ e (by simp)).trans (se e he).2.2⟩⟩
    · rw [hV, ho.1.2 19 _ e (by simp), ho.1.2 2 _ _ (by simp), (se e he).1, (r2 _ b1).1]; rfl
    · rw [hV, ho.1.2 20 _ e (by simp), ho.1.2 3 _ _ (by simp), (se e he).2.1, (r2 _ b1).2]; rfl
  have hap_lt : ∀ k, k < wd_n w → wd_t (wd_ap τ s w c ps) k = (match jp_at ps k with
      | some e => tk_hit τ (wd_t w k) s e
      | none => tk_miss τ (wd_t w k)) := fun k hk => if_pos hk
  have hap_ge : ∀ k, ¬ k < wd_n w → wd_t (wd_ap τ s w c ps) k = tk_new τ s (jp_dot ps (k - wd_n w)) := fun k hk => if_neg hk
  -- second loop: the dots
  have dots : ∀ r e : Nat, e + r = ta_dn τ s → ∀ M' : am_M, ck_only p M M' → M'.1 24 p 1 = nI (wd_n w + jp_nb ps e) → (∀ k, k < wd_n w + jp_nb ps e → ∀ i, i < 9 → M'.1 27 (6 * p + k) i = wd_t (wd_ap τ s w c ps) k i) →
      (∀ s' e', P s' → s' ≠ s → e' < ta_dn τ s' → M'.1 26 p (4 * s' + e') = wd_a w s' e') → (∀ e', e' < e → M'.1 26 p (4 * s + e') = jp_ac (wd_n w) ps e') → ∀ z7 z8, X d 71 54 [some (.inr (.inl (24, p))), some (.inr (.inl (22, j))), some (.inr (.inl (1, 0))), some (.inl (nI s)), some (.inr (.inl (18, M.2.1 4 s))), some (.inl (nI (wd_n w))), some (.inl (nI e)), z7, z8] [] M' Q := by
    intro r
    induction r with
    | zero =>
      intro e he M' ho hcnt htr hac1 hac2 z7 z8
      have he : e = ta_dn τ s := by omega
      subst he
      obtain ⟨hV, t1, t2, t3, t4⟩ := stay M' ho
      refine am_go hX [54] 40 ?_
      refine ⟨fun _ => ?_, fun (q : ¬ M'.1 18 (M.2.1 4 s) 2 ≤ nI (ta_dn τ s)) => absurd (by rw [t3]; exact nI_le (Nat.le_refl _) (by omega)) q⟩
      refine (fun (z : Q none (am_si M' 24 p 0 (M'.1 22 j 1))) => z) ?_
      rw [ho.1.2 22 j 1 (by simp), hj1]
      refine h _ (ck_only_24 ho) ⟨?_, ?_, fun k hk i hi => ?_, fun s' e' hs' he' => ?_⟩
      · rw [am_si_at, if_pos ⟨rfl, rfl, rfl⟩]; rfl
      · rw [am_si_at, if_neg (by omega), hcnt, ← k1]; rfl
      · rw [am_si_at, if_neg (by omega)]
        exact htr k (by rw [← k1]; exact hk) i hi
      · rw [am_si_at, if_neg (by omega)]
        by_cases z : s' = s
        · subst z
          show _ = (if s' = s' then jp_ac (wd_n w) ps e' else wd_a w s' e')
          rw [if_pos rfl]; exact hac2 e' he'
        · show _ = (if s' = s then jp_ac (wd_n w) ps e' else wd_a w s' e')
          rw [if_neg z]; exact hac1 s' e' (hs'.resolve_left z) z he'
    | succ r ih =>
      intro e he M' ho hcnt htr hac1 hac2 z7 z8
      have hen : e < ta_dn τ s := by omega
      obtain ⟨hV, t1, t2, t3, t4⟩ := stay M' ho
      obtain ⟨x1, x2, x3⟩ := t4 e hen
      have epk : M'.1 23 j e = nI (am_nth ps e 9) := (ho.1.2 23 j e (by simp)).trans (hjp e hen)
      have ix : 4 * nI s + nI e = nI (4 * s + e) := by rw [show (4 : Int32) = nI 4 from rfl, pk_mul, nI_add]
      -- behind the account
      have nxt : ∀ (M2 : am_M) (v : Int32), v = jp_ac (wd_n w) ps e → ck_only p M M2 → M2.1 24 p 1 = nI (wd_n w + jp_nb ps (e + 1)) → (∀ k, k < wd_n w + jp_nb ps (e + 1) → ∀ i, i < 9 → M2.1 27 (6 * p + k) i = wd_t (wd_ap τ s w c ps) k i) → (∀ q, M2.1 26 p q = M'.1 26 p q) → ∀ z7, X d 71 91 [some (.inr (.inl (24, p))), some (.inr (.inl (22, j))), some (.inr (.inl (1, 0))), some (.inl (nI s)), some (.inr (.inl (18, M.2.1 4 s))), some (.inl (nI (wd_n w))), some (.inl (nI e)), z7, some (.inl (v))] [] M2 Q := by
        intro M2 v hv ho2 hc2 ht2 ha2 z7
        refine am_go hX [54] 40 ?_
        refine ⟨4 * s + e, by show 4 * s + e < 48; omega, ix, ?_⟩
        refine (fun (z : X d 71 54 [some (.inr (.inl (24, p))), some (.inr (.inl (22, j))), some (.inr (.inl (1, 0))), some (.inl (nI s)), some (.inr (.inl (18, M.2.1 4 s))), some (.inl (nI (wd_n w))), some (.inl (nI e + 1)), z7, some (.inl (v))] [] (am_si M2 26 p (4 * s + e) v) Q) => z) ?_
        rw [nI_1]
        refine ih (e + 1) (by omega) _ (ck_only_26 ho2) ?_ (fun k hk i hi => ?_) (fun s' e' h1 h2 h3 => ?_) (fun e' he' => ?_) _ _
        · rw [am_si_at, if_neg (by omega)]; exact hc2
        · rw [am_si_at, if_neg (by omega)]; exact ht2 k hk i hi
        · have := (hτ.2.2.1 s' (hP s' h1)).2.2.1
          rw [am_si_at, if_neg (by omega), ha2]; exact hac1 s' e' h1 h2 h3
        · rw [am_si_at]
          by_cases z : e' = e
          · subst z; rw [if_pos ⟨rfl, rfl, rfl⟩]; exact hv
          · rw [if_neg (by omega), ha2]; exact hac2 e' (by omega)
      refine am_go hX [54, 91] 60 ?_
      refine ⟨fun (q : M'.1 18 (M.2.1 4 s) 2 ≤ nI e) => absurd q (by rw [t3]; exact nI_ge hen (by omega)), fun _ => ?_⟩
      refine ⟨e, by show e < 4; omega, rfl, ?_⟩
      have hb8 := hpb e hen
      have hle := jp_nb_le ps (show e + 1 ≤ ta_dn τ s by omega)
      refine ⟨fun (q : ¬ M'.1 23 j e = 6) => ?_, fun (q : ¬ ¬ M'.1 23 j e = 6) => ?_⟩
      · have q6 : am_nth ps e 9 ≠ 6 := fun z => q (by rw [epk, z]; rfl)
        have hnb : jp_nb ps (e + 1) = jp_nb ps e := by rw [jp_nb, if_neg q6, Nat.add_zero]
        refine ⟨fun (q2 : ¬ M'.1 23 j e = 7) => ?_, fun (q2 : ¬ ¬ M'.1 23 j e = 7) => ?_⟩
        · have q7 : am_nth ps e 9 ≠ 7 := fun z => q2 (by rw [epk, z]; rfl)
          refine nxt M' _ ?_ ho (by rw [hnb]; exact hcnt) (by rw [hnb]; exact htr) (fun _ => rfl) _
          show M'.1 23 j e = _
          unfold jp_ac; rw [if_neg q7, if_neg q6, epk]
        · have q2 := Classical.not_not.mp q2
          rw [epk] at q2
          have q7 : am_nth ps e 9 = 7 := (nI_eq (b := 7) (by omega) (by decide)).mp q2
          refine nxt M' (-1) ?_ ho (by rw [hnb]; exact hcnt) (by rw [hnb]; exact htr) (fun _ => rfl) _
          unfold jp_ac; rw [if_pos q7]
      · have q := Classical.not_not.mp q
        rw [epk] at q
        have q6 : am_nth ps e 9 = 6 := (nI_eq (b := 6) (by omega) (by decide)).mp q
        have hnb : jp_nb ps (e + 1) = jp_nb ps e + 1 := by rw [jp_nb, if_pos q6]
        refine am_cc (by omega) (cw_rightX hX _ _ s e (ta_wt τ s) (by omega) (by omega) b1 t1 _ ?_)
        rw [x1]
        refine am_cc (by omega) (cw_rightY hX _ _ s e (ta_wt τ s) (by omega) (by omega) b1 t1 _ ?_)
        rw [x2]
        refine ⟨e, by show e < 4; omega, rfl, am_cc (by omega) (cw_addTrack hX _ _ (by omega) p (wd_n w + jp_nb ps e) (by omega) hcnt _ _ _ _ _ (fun M2 hr => ?_))⟩
        have hrow : ∀ i, i < 9 → (fun i => match i with
            | 0 => ta_rx τ s e | 1 => ta_ry τ s e | 4 => M'.1 18 (M.2.1 4 s) 1 | 5 => 1 | 7 => M'.1 21 (M.2.1 4 s) e | _ => 0 : Nat → Int32) i = wd_t (wd_ap τ s w c ps) (wd_n w + jp_nb ps e) i := by
          intro i hi
          rw [hap_ge _ (by omega), show wd_n w + jp_nb ps e - wd_n w = jp_nb ps e by omega, jp_dot_at ps (by omega) q6]
          match i, hi with
          | 0, _ => rfl
          | 1, _ => rfl
          | 2, _ => rfl
          | 3, _ => rfl
          | 4, _ => exact t2
          | 5, _ => rfl
          | 6, _ => rfl
          | 7, _ => exact x3
          | 8, _ => rfl
        refine nxt (am_si M2 24 p 1 (nI (wd_n w + jp_nb ps e + 1))) (nI (wd_n w + jp_nb ps e)) ?_ (ck_only_24 (ck_only_27 ho (by omega) hr)) ?_ (fun k hk i hi => ?_) (fun q => ?_) _
        · unfold jp_ac; rw [if_neg (by omega), if_pos q6]
        · rw [am_si_at, if_pos ⟨rfl, rfl, rfl⟩, hnb]; rfl
        · rw [am_si_at, if_neg (by omega), hr.2]
          by_cases z : k = wd_n w + jp_nb ps e
          · subst z; rw [if_pos ⟨rfl, hi⟩]; exact hrow i hi
          · rw [if_neg (by omega)]; exact htr k (by omega) i hi
        · rw [am_si_at, if_neg (by omega)]; exact hr.1.2 26 p q (by simp)
  -- first loop: the tracks
  have trks : ∀ r k : Nat, k + r = wd_n w → ∀ M' : am_M, ck_only p M M' → M'.1 24 p 1 = nI (wd_n w) → (∀ k', k' < k → ∀ i, i < 9 → M'.1 27 (6 * p + k') i = wd_t (wd_ap τ s w c ps) k' i) → (∀ k', k ≤ k' → k' < wd_n w → ∀ i, i < 9 → M'.1 27 (6 * p + k') i = wd_t w k' i) → (∀ q, M'.1 26 p q = M.1 26 p q) → ∀ z7 z8, X d 71 10 [some (.inr (.inl (24, p))), some (.inr (.inl (22, j))), some (.inr (.inl (1, 0))), some (.inl (nI s)), some (.inr (.inl (18, M.2.1 4 s))), some (.inl (nI (wd_n w))), some (.inl (nI k)), z7, z8] [] M' Q := by
    intro r
    induction r with
    | zero =>
      intro k hk M' ho hcnt hdone hrest hac z7 z8
      have hk : k = wd_n w := by omega
      subst hk
      refine am_go hX [54] 40 ?_
      refine ⟨fun _ => ?_, fun (q : ¬ nI (wd_n w) ≤ nI (wd_n w)) => absurd (nI_le (Nat.le_refl _) (by omega)) q⟩
      exact dots (ta_dn τ s) 0 (by omega) M' ho hcnt hdone (fun s' e' h1 h2 h3 => (hac _).trans (w4 s' e' h1 h3)) (fun e' he' => by omega) _ _
    | succ r ih =>
      intro k hk M' ho hcnt hdone hrest hac z7 z8
      obtain ⟨hV, t1, t2, t3, t4⟩ := stay M' ho
      have hkn : k < wd_n w := by omega
      have nxt : ∀ (M2 : am_M) (rw_ : Nat → Int32), ck_row M' M2 (6 * p + k) rw_ → (∀ i, i < 9 → rw_ i = wd_t (wd_ap τ s w c ps) k i) → ∀ z7, X d 71 50 [some (.inr (.inl (24, p))), some (.inr (.inl (22, j))), some (.inr (.inl (1, 0))), some (.inl (nI s)), some (.inr (.inl (18, M.2.1 4 s))), some (.inl (nI (wd_n w))), some (.inl (nI k)), z7, z8] [] M2 Q := by
        intro M2 rw_ hr hrw z7
        refine am_go hX [10] 40 ?_
        refine (fun (z : X d 71 10 [some (.inr (.inl (24, p))), some (.inr (.inl (22, j))), some (.inr (.inl (1, 0))), some (.inl (nI s)), some (.inr (.inl (18, M.2.1 4 s))), some (.inl (nI (wd_n w))), some (.inl (nI k + 1)), z7, z8] [] M2 Q) => z) ?_
        rw [nI_1]
        refine ih (k + 1) (by omega) M2 (ck_only_27 ho (by omega) hr) ((hr.1.2 24 p 1 (by simp)).trans hcnt) (fun k' hk' i hi => ?_) (fun k' h1 h2 i hi => ?_) (fun q => (hr.1.2 26 p q (by simp)).trans (hac q)) _ _
        · rw [hr.2]
          by_cases z : k' = k
          · subst z; rw [if_pos ⟨rfl, hi⟩]; exact hrw i hi
          · rw [if_neg (by omega)]; exact hdone k' (by omega) i hi
        · rw [hr.2, if_neg (by omega)]; exact hrest k' (by omega) h2 i hi
      refine am_go hX [10, 50] 60 ?_
      refine ⟨fun (q : nI (wd_n w) ≤ nI k) => absurd q (nI_ge hkn (by omega)), fun _ => am_cc (by omega) ?_⟩
      refine (fun (z : X (d - 1) 63 0 [some (.inr (.inl (22, j))), some (.inl (nI k)), some (.inl (M'.1 18 (M.2.1 4 s) 2)), none] [] M' _) => z) ?_
      rw [t3]
      refine cw_dotPicked hX _ _ j k (ta_dn τ s) (by omega) ps k1 (fun e he => (ho.1.2 23 j e (by simp)).trans (hjp e he)) hpb (by omega) _ (fun e he hat => ?_) (fun hat => ?_)
      · obtain ⟨x1, x2, x3⟩ := t4 e he
        refine ⟨fun (q : nI e < 0) => absurd q (nI_pos (by omega)), fun _ => ?_⟩
        refine ⟨k, by show k < 6; omega, rfl, am_cc (by omega) (cw_rightX hX _ _ s e (ta_wt τ s) (by omega) (by omega) b1 t1 _ ?_)⟩
        rw [x1]
        refine am_cc (by omega) (cw_rightY hX _ _ s e (ta_wt τ s) (by omega) (by omega) b1 t1 _ ?_)
        rw [x2]
        refine ⟨e, by show e < 4; omega, rfl, am_cc (by omega) (cw_hit hX _ _ (by omega) (6 * p + k) _ _ _ _ _ (fun M2 hr => ?_))⟩
        refine nxt M2 _ hr (fun i hi => ?_) _
        show ck_hit (M'.1 27 (6 * p + k)) (ta_rx τ s e) (ta_ry τ s e) (M'.1 18 (M.2.1 4 s) 1) (M'.1 21 (M.2.1 4 s) e) i = _
        rw [t2, x3, hap_lt k hkn, hat]
        exact tk_hit_eq τ (wd_t w k) _ s e (fun i hi => hrest k (Nat.le_refl k) hkn i hi) i hi
      · refine ⟨fun _ => ?_, fun (q : ¬ (-1 : Int32) < 0) => absurd (by decide) q⟩
        refine ⟨k, by show k < 6; omega, rfl, 4, by show 4 < 6; omega, rfl, am_cc (by omega) (cw_miss hX _ _ (6 * p + k) _ _ (fun M2 hr => ?_))⟩
        refine nxt M2 _ hr (fun i hi => ?_) _
        show ck_miss (M'.1 27 (6 * p + k)) (M'.1 6 0 4) i = _
        rw [(ho.1.2 6 0 4 (by simp)).trans (r7 4 (by omega)), hap_lt k hkn, hat]
        exact tk_miss_eq τ (wd_t w k) _ (fun i hi => hrest k (Nat.le_refl k) hkn i hi) i hi
  exact trks (wd_n w) 0 (by omega) M (ck_only_rf p M) w2 (fun k' hk' => by omega) (fun k' _ hk' i hi => w3 k' hk' i hi) (fun _ => rfl) _ _
