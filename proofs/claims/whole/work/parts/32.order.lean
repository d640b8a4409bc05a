/-! the order of scans -/
theorem od_char (mo : Nat → Nat) (s : Nat) : ∀ (p : Nat) (o : Nat → Nat), ∃ q, q ≤ p ∧ (∀ i, od_in mo s p o i = if i < q then o i else if i = q then s else if i ≤ p then o (i - 1) else o i) ∧ (0 < q → mo (o (q - 1)) ≤ mo s) ∧ ∀ i, q ≤ i → i < p → mo s < mo (o i)
  | 0, o => ⟨0, Nat.le_refl 0, fun i => by
      rw [od_in]
      by_cases h : i = 0
      · subst h; simp
      · show (if i = 0 then s else o i) = _
        rw [if_neg h, if_neg (show ¬ i < 0 by omega), if_neg h, if_neg (show ¬ i ≤ 0 by omega)], fun h => by omega, fun i _ h => by omega⟩
  | p + 1, o => by
    by_cases h : mo s < mo (o p)
    · obtain ⟨q, h1, h2, h3, h4⟩ := od_char mo s p (fun i => if i = p + 1 then o p else o i)
      refine ⟨q, by omega, fun i => ?_, fun hq => ?_, fun i hi1 hi2 => ?_⟩
      · rw [od_in, if_pos h, h2 i]
        by_cases c1 : i < q
        · rw [if_pos c1, if_pos c1, if_neg (by omega)]
        · rw [if_neg c1, if_neg c1]
          by_cases c2 : i = q
          · rw [if_pos c2, if_pos c2]
          · rw [if_neg c2, if_neg c2]
            by_cases c3 : i ≤ p
            · rw [if_pos c3, if_neg (show ¬ i - 1 = p + 1 by omega), if_pos (show i ≤ p + 1 by omega)]
            · rw [if_neg c3]
              by_cases c4 : i = p + 1
              · subst c4; rw [if_pos rfl, if_pos (Nat.le_refl _)]; rfl
              · rw [if_neg c4, if_neg (by omega)]
      · have := h3 hq
        rw [if_neg (by omega)] at this; exact this
      · rcases Nat.lt_or_ge i p with z | z
        · have := h4 i hi1 z
          rw [if_neg (by omega)] at this; exact this
        · have : i = p := by omega
          subst this; exact h
    · refine ⟨p + 1, Nat.le_refl _, fun i => ?_, fun _ => by show mo (o p) ≤ mo s; omega, fun i h1 h2 => by omega⟩
      rw [od_in, if_neg h]
      by_cases c : i = p + 1
      · subst c; simp
      · rw [if_neg c]
        by_cases c1 : i < p + 1
        · rw [if_pos c1]
        · rw [if_neg c1, if_neg c, if_neg (by omega)]
theorem od_facts (mo : Nat → Nat) : ∀ (k : Nat), (∀ i, i < k → od_k mo k i < k) ∧ (∀ i j, i ≤ j → j < k → mo (od_k mo k i) ≤ mo (od_k mo k j)) ∧ ∀ s, s < k → ∃ i, i < k ∧ od_k mo k i = s
  | 0 => ⟨fun i h => by omega, fun i j _ h => by omega, fun s h => by omega⟩
  | k + 1 => by
    obtain ⟨f1, f2, f3⟩ := od_facts mo k
    obtain ⟨q, h1, h2, h3, h4⟩ := od_char mo k k (od_k mo k)
    have h2' : ∀ i, i < k + 1 → od_k mo (k + 1) i = if i < q then od_k mo k i else if i = q then k else od_k mo k (i - 1) := by
      intro i hi
      rw [od_k, h2 i]
      by_cases c1 : i < q
      · rw [if_pos c1, if_pos c1]
      · rw [if_neg c1, if_neg c1]
        by_cases c2 : i = q
        · rw [if_pos c2, if_pos c2]
        · rw [if_neg c2, if_neg c2, if_pos (by omega)]
    have lo : ∀ i, i < q → mo (od_k mo k i) ≤ mo k := fun i hi => Nat.le_trans (f2 i (q - 1) (by omega) (by omega)) (h3 (by omega))
    refine ⟨fun i hi => ?_, fun i j hij hj => ?_, fun s hs => ?_⟩
    · rw [h2' i hi]
      split
      · have := f1 i (by omega); omega
      · split
        · omega
        · have := f1 (i - 1) (by omega); omega
    · rw [h2' i (by omega), h2' j hj]
      by_cases c1 : j < q
      · rw [if_pos (show i < q by omega), if_pos c1]; exact f2 i j hij (by omega)
      · rw [if_neg c1]
        by_cases c2 : j = q
        · rw [if_pos c2]
          by_cases c3 : i < q
          · rw [if_pos c3]; exact lo i c3
          · rw [if_neg c3, if_pos (by omega)]; exact Nat.le_refl _
        · rw [if_neg c2]
          by_cases c3 : i < q
          · rw [if_pos c3]; exact f2 i (j - 1) (by omega) (by omega)
          · rw [if_neg c3]
            by_cases c4 : i = q
            · rw [if_pos c4]; have := h4 (j - 1) (by omega) (by omega); omega
            · rw [if_neg c4]; exact f2 (i - 1) (j - 1) (by omega) (by omega)
    · by_cases c : s = k
      · refine ⟨q, by omega, ?_⟩
        rw [h2' q (by omega), if_neg (by omega), if_pos rfl, c]
      · obtain ⟨i, hi, e⟩ := f3 s (by omega)
        by_cases c1 : i < q
        · exact ⟨i, by omega, by rw [h2' i (by omega), if_pos c1]; exact e⟩
        · refine ⟨i + 1, by omega, ?_⟩
          rw [h2' (i + 1) (by omega), if_neg (by omega), if_neg (by omega)]; exact e
theorem cw_sort {X : am_X} (hX : am_Cl X) (d : Nat) (M : am_M) (τ : ta) (hτ : ta_ok τ) (hT : rc_T M τ) (Q : am_P) (h : ∀ M', am_fr [5] M M' → (∀ i, i < ta_n τ → M'.1 5 0 i = nI (od τ i)) → Q none M') : X d 38 0 [some (.inr (.inl (1, 0))), none, none] [] M Q := by
  obtain ⟨r1, r2, r3, r4, r5, r6, r7⟩ := id hT
  have hn12 := hτ.1
  refine am_go hX [2] 40 ?_
  have outer : ∀ t s : Nat, s + t = ta_n τ → ∀ M' : am_M, am_fr [5] M M' → (∀ i, i < s → M'.1 5 0 i = nI (od_k (ta_mo τ) s i)) → ∀ z, X d 38 2 [some (.inr (.inl (1, 0))), some (.inl (nI s)), z] [] M' Q := by
    intro t
    induction t with
    | zero =>
      intro s hs M' fr ho z
      have hs : s = ta_n τ := by omega
      subst hs
      have e : M'.1 1 0 2 = nI (ta_n τ) := (fr.2 1 0 2 (by simp)).trans r1
      refine am_go hX [2] 40 ?_
      exact ⟨fun _ => h M' fr ho, fun (q : ¬ M'.1 1 0 2 ≤ nI (ta_n τ)) => absurd (by rw [e]; exact nI_le (Nat.le_refl _) (by omega)) q⟩
    | succ t ih =>
      intro s hs M' fr ho z
      have e : M'.1 1 0 2 = nI (ta_n τ) := (fr.2 1 0 2 (by simp)).trans r1
      have hsn : s < ta_n τ := by omega
      have fin : ∀ (p : Nat) (f : Nat → Nat) (M2 : am_M), p ≤ s → am_fr [5] M M2 → (∀ i, i ≤ s → i ≠ p → M2.1 5 0 i = nI (f i)) → f p = s → (∀ i, i < s + 1 → od_k (ta_mo τ) (s + 1) i = f i) → X d 38 38 [some (.inr (.inl (1, 0))), some (.inl (nI s)), some (.inl (nI p))] [] M2 Q := by
        intro p f M2 hp fr2 hf hfp hod
        refine am_go hX [2] 40 ?_
        refine ⟨p, by show p < 12; omega, rfl, ?_⟩
        refine (fun (w : X d 38 2 [some (.inr (.inl (1, 0))), some (.inl (nI s + 1)), some (.inl (nI p))] [] (am_si M2 5 0 p (nI s)) Q) => w) ?_
        rw [nI_1]
        refine ih (s + 1) (by omega) _ (am_fr_si fr2 (by simp)) (fun i hi => ?_) _
        rw [am_si_at, hod i hi]
        by_cases c : i = p
        · rw [if_pos ⟨rfl, rfl, c⟩, c, hfp]
        · rw [if_neg (fun q => c q.2.2)]; exact hf i (by omega) c
      have inner : ∀ (p : Nat) (o : Nat → Nat) (M2 : am_M), p ≤ s → am_fr [5] M M2 → (∀ i, i ≤ s → i ≠ p → M2.1 5 0 i = nI (o i)) → (∀ i, i < p → o i < s) → (∀ i, i < s + 1 → od_k (ta_mo τ) (s + 1) i = od_in (ta_mo τ) s p o i) → X d 38 8 [some (.inr (.inl (1, 0))), some (.inl (nI s)), some (.inl (nI p))] [] M2 Q := by
        intro p
        induction p with
        | zero =>
          intro o M2 hp fr2 hf hlt hod
          refine am_go hX [38] 40 ?_
          refine ⟨fun _ => ?_, fun (q : ¬ nI 0 ≤ 0) => absurd (by decide) q⟩
          exact fin 0 (fun i => if i = 0 then s else o i) M2 hp fr2 (fun i hi hne => by rw [if_neg hne]; exact hf i hi hne) (if_pos rfl) (fun i hi => by rw [hod i hi, od_in])
        | succ p ihp =>
          intro o M2 hp fr2 hf hlt hod
          have hop : o p < s := hlt p (by omega)
          have ep : M2.1 5 0 p = nI (o p) := hf p (by omega) (by omega)
          have hV : M2.2 = M.2 := fr2.1
          have m1 : M2.1 18 (M2.2.1 4 (o p)) 1 = nI (ta_mo τ (o p)) := by rw [hV]; exact (fr2.2 18 _ 1 (by simp)).trans (r5 (o p) (by omega)).2.1
          have m2 : M2.1 18 (M2.2.1 4 s) 1 = nI (ta_mo τ s) := by rw [hV]; exact (fr2.2 18 _ 1 (by simp)).trans (r5 s hsn).2.1
          have b1 := (hτ.2.2.1 (o p) (by omega)).2.1
          have b2 := (hτ.2.2.1 s hsn).2.1
          refine am_go hX [8, 38] 40 ?_
          refine ⟨fun (q : nI (p + 1) ≤ 0) => absurd q (nI_nle (by omega) (by omega)), fun _ => ?_⟩
          refine ⟨p, by show p < 12; omega, nI_pred p, o p, by show o p < 13; omega, ep, s, by show s < 13; omega, rfl, fun (q : M2.1 18 (M2.2.1 4 (o p)) 1 ≤ M2.1 18 (M2.2.1 4 s) 1) => ?_, fun (q : ¬ M2.1 18 (M2.2.1 4 (o p)) 1 ≤ M2.1 18 (M2.2.1 4 s) 1) => ?_⟩
          · rw [m1, m2] at q
            have q := (nI_leI (by omega) (by omega)).mp q
            exact fin (p + 1) (fun i => if i = p + 1 then s else o i) M2 hp fr2 (fun i hi hne => by rw [if_neg hne]; exact hf i hi hne) (if_pos rfl) (fun i hi => by rw [hod i hi, od_in, if_neg (by omega)])
          · rw [m1, m2] at q
            have q : ta_mo τ s < ta_mo τ (o p) := by
              rcases Nat.lt_or_ge (ta_mo τ s) (ta_mo τ (o p)) with w | w
              · exact w
              · exact absurd (nI_le w (by omega)) q
            refine ⟨p, by show p < 12; omega, nI_pred p, p + 1, by show p + 1 < 12; omega, rfl, ?_⟩
            refine (fun (w : X d 38 8 [some (.inr (.inl (1, 0))), some (.inl (nI s)), some (.inl (nI (p + 1) + (-1)))] [] (am_si M2 5 0 (p + 1) (M2.1 5 0 p)) Q) => w) ?_
            rw [pk_m1, ep]
            refine ihp (fun i => if i = p + 1 then o p else o i) _ (by omega) (am_fr_si fr2 (by simp)) (fun i hi hne => ?_) (fun i hi => by rw [if_neg (by omega)]; exact hlt i (by omega)) (fun i hi => by rw [hod i hi, od_in, if_pos q])
            rw [am_si_at]
            by_cases c : i = p + 1
            · rw [if_pos ⟨rfl, rfl, c⟩, if_pos c]
            · rw [if_neg (fun w => c w.2.2), if_neg c]; exact hf i hi c
      refine am_go hX [8] 40 ?_
      refine ⟨fun (q : M'.1 1 0 2 ≤ nI s) => absurd q (by rw [e]; exact nI_ge hsn (by omega)), fun _ => ?_⟩
      exact inner s (od_k (ta_mo τ) s) M' (Nat.le_refl s) fr (fun i hi hne => ho i (by omega)) (fun i hi => (od_facts (ta_mo τ) s).1 i hi) (fun i hi => rfl)
  exact outer (ta_n τ) 0 (by omega) M (am_fr_rf _ M) (fun i hi => by omega) _
/-- the class's reckoned part -/
def rc_D (M : am_M) (τ : ta) : Prop := (∀ i, i < ta_n τ → M.1 5 0 i = nI (od τ i)) ∧ rc_K M τ (fun s => s < ta_n τ) (ta_n τ) (wds τ)
theorem rc_K_P {M : am_M} {τ : ta} {P P' : Nat → Prop} {m : Nat} {ws : List wd} (h : rc_K M τ P m ws) (hP : ∀ s, P' s → P s) : rc_K M τ P' m ws := by
  obtain ⟨q1, q2, q3, q4, q5⟩ := h
  exact ⟨q1, q2, q3, q4, fun i hi => ⟨⟨(q5 i hi).1.1, (q5 i hi).1.2.1, (q5 i hi).1.2.2.1, fun s e hs he => (q5 i hi).1.2.2.2 s e (hP s hs) he⟩, (q5 i hi).2⟩⟩
theorem cw_clear {X : am_X} (hX : am_Cl X) (d : Nat) (M : am_M) (p : Nat) (Q : am_P) (h : Q none (am_si (am_si M 24 p 0 0) 24 p 1 0)) : X d 64 0 [some (.inr (.inl (24, p)))] [] M Q := by
  refine am_go hX [] 40 ?_
  exact h
/-- behind a refresh -/
def rc_F (M M' : am_M) : Prop := (∀ f k, f ∉ [8, 12] → M'.2.1 f k = M.2.1 f k) ∧ (∀ f i k, f ∉ [1, 5, 8, 10, 11, 13, 14, 15, 16, 22, 23, 24, 26, 27] → M'.1 f i k = M.1 f i k) ∧ ∀ k, k ≠ 0 → M'.1 1 0 k = M.1 1 0 k
theorem rc_T_F {M M' : am_M} {τ : ta} (h : rc_T M τ) (fr : rc_F M M') : rc_T M' τ := by
  obtain ⟨h1, h2, h3, h4, h5, h6, h7⟩ := h
  have fv : ∀ i, M'.2.1 4 i = M.2.1 4 i := fun i => fr.1 4 i (by simp)
  have f := fr.2.1
  refine ⟨(fr.2.2 2 (by omega)).trans h1, fun w hw => ⟨(f 2 _ _ (by simp)).trans (h2 w hw).1, (f 3 _ _ (by simp)).trans (h2 w hw).2⟩, fun i hi => by rw [fv]; exact h3 i hi, fun i j hi hj q => by rw [fv, fv] at q; exact h4 i j hi hj q, fun s hs => ?_, fun k hk => (f 7 _ _ (by simp)).trans (h6 k hk), fun k hk => (f 6 _ _ (by simp)).trans (h7 k hk)⟩
  obtain ⟨a1, a2, a3, a4⟩ := h5 s hs
  rw [fv]
  exact ⟨(f 18 _ _ (by simp)).trans a1, (f 18 _ _ (by simp)).trans a2, (f 18 _ _ (by simp)).trans a3, fun e he => ⟨(f 19 _ _ (by simp)).trans (a4 e he).1, (f 20 _ _ (by simp)).trans (a4 e he).2.1, (f 21 _ _ (by simp)).trans (a4 e he).2.2⟩⟩
set_option maxHeartbeats 1000000 in
theorem cw_refresh {X : am_X} (hX : am_Cl X) (d : Nat) (M : am_M) (hd : 9 ≤ d) (τ : ta) (hτ : ta_ok τ) (hT : rc_T M τ) (hS : rc_S M) (hv : M.2.1 8 0 < 2 ∧ M.2.1 8 2 = 1 - M.2.1 8 0) (hD : M.1 1 0 0 = 0 → rc_D M τ) (Q : am_P)
    (h : ∀ M', rc_F M M' → rc_D M' τ → rc_S M' → M'.1 1 0 0 = 0 → Q none M') : X d 42 0 [some (.inr (.inl (8, 0))), some (.inr (.inl (1, 0))), none] [] M Q := by
  refine am_go hX [24] 60 ?_
  refine ⟨fun _ => ?_, fun (q : ¬ ¬ M.1 1 0 0 = 0) => h M ⟨fun _ _ _ => rfl, fun _ _ _ _ => rfl, fun _ _ => rfl⟩ (hD (Classical.not_not.mp q)) hS (Classical.not_not.mp q)⟩
  have hn12 := hτ.1
  have F1 : rc_F M (am_si M 1 0 0 0) := ⟨fun _ _ _ => rfl, fun f i k hf => by rw [am_si_at, if_neg (fun z => hf (by rw [z.1]; simp))], fun k hk => by rw [am_si_at, if_neg (fun z => hk z.2.2)]⟩
  refine ⟨Or.inl rfl, am_cc (by omega) (cw_sort hX _ _ τ hτ (rc_T_F hT F1) _ (fun M2 fr2 ho2 => ?_))⟩
  have F2 : rc_F M M2 := ⟨fun f k hf => by rw [fr2.1]; exact F1.1 f k hf, fun f i k hf => (fr2.2 f i k (fun z => hf (by simp at z ⊢; omega))).trans (F1.2.1 f i k hf), fun k hk => (fr2.2 1 0 k (by simp)).trans (F1.2.2 k hk)⟩
  have hT2 := rc_T_F hT F2
  refine am_cc (by omega) (cw_goBy hX _ _ τ hτ hT2.2.2.2.2.2.2 _ (fun M3 fr3 g1 g2 g3 g4 => ?_))
  have c10 : M3.1 1 0 0 = 0 := by
    rw [fr3.2.2 1 0 0 (by simp)]
    show M2.1 1 0 0 = 0
    rw [fr2.2 1 0 0 (by simp), am_si_at, if_pos ⟨rfl, rfl, rfl⟩]
  have v3 : ∀ f k, M3.2.1 f k = M.2.1 f k := fun f k => (fr3.2.1 f k (by simp)).trans (by show M2.2.1 f k = _; rw [fr2.1]; rfl)
  have i3 : ∀ f i k, f ≠ 10 → M3.1 f i k = M2.1 f i k := fun f i k hf => fr3.2.2 f i k (by simpa using hf)
  refine ⟨0, by show 0 < 4; omega, rfl, am_cc (by omega) (cw_clear hX _ _ _ _ ?_)⟩
  refine (fun (z : X d 42 24 [some (.inr (.inl (8, 0))), some (.inr (.inl (1, 0))), some (.inl (nI 0))] [] (am_si (am_si (am_si M3 24 (4 * M3.2.1 8 0 + 0) 0 0) 24 (4 * M3.2.1 8 0 + 0) 1 0) 8 0 1 1) Q) => z) ?_
  generalize hM4 : am_si (am_si (am_si M3 24 (4 * M3.2.1 8 0 + 0) 0 0) 24 (4 * M3.2.1 8 0 + 0) 1 0) 8 0 1 1 = M4
  have fr4 : am_fg [8, 24] [] M3 M4 := by rw [← hM4]; exact am_fg_si (am_fg_si (am_fg_si (am_fg_rf _ _ _) (by simp)) (by simp)) (by simp)
  have v4 : ∀ f k, M4.2.1 f k = M.2.1 f k := fun f k => (fr4.2.1 f k (by simp)).trans (v3 f k)
  have key : ∀ M' : am_M, am_fg [8, 10, 11, 13, 14, 15, 16, 22, 23, 24, 26, 27] [8, 12] M4 M' → rc_F M M' ∧ M'.1 1 0 0 = 0 ∧ (∀ i, i < ta_n τ → M'.1 5 0 i = nI (od τ i)) := by
    intro M' fr
    refine ⟨⟨fun f k hf => (fr.2.1 f k hf).trans (v4 f k), fun f i k hf => ?_, fun k hk => ?_⟩, ?_, fun i hi => ?_⟩
    · rw [fr.2.2 f i k (fun z => hf (by simp at z ⊢; omega)), fr4.2.2 f i k (fun z => hf (by simp at z ⊢; omega)), i3 f i k (fun z => hf (by simp [z])), F2.2.1 f i k hf]
    · rw [fr.2.2 1 0 k (by simp), fr4.2.2 1 0 k (by simp), i3 1 0 k (by omega)]; exact F2.2.2 k hk
    · rw [fr.2.2 1 0 0 (by simp), fr4.2.2 1 0 0 (by simp)]; exact c10
    · rw [fr.2.2 5 0 i (by simp), fr4.2.2 5 0 i (by simp), i3 5 0 i (by omega)]; exact ho2 i hi
  have loop : ∀ t i : Nat, i + t = ta_n τ → ∀ M' : am_M, am_fg [8, 10, 11, 13, 14, 15, 16, 22, 23, 24, 26, 27] [8, 12] M4 M' → rc_K M' τ (fun s => ∃ i', i' < i ∧ od τ i' = s) i (wd_k τ i) → rc_G M' τ → rc_S M' → X d 42 24 [some (.inr (.inl (8, 0))), some (.inr (.inl (1, 0))), some (.inl (nI i))] [] M' Q := by
    intro t
    induction t with
    | zero =>
      intro i hi M' fr hK hG hS'
      have hi : i = ta_n τ := by omega
      subst hi
      obtain ⟨k1, k2, k3⟩ := key M' fr
      have e := (rc_T_F hT k1).1
      refine am_go hX [24] 40 ?_
      refine ⟨fun _ => h M' k1 ⟨k3, rc_K_P hK (fun s hs => ?_)⟩ hS' k2, fun (q : ¬ M'.1 1 0 2 ≤ nI (ta_n τ)) => absurd (by rw [e]; exact nI_le (Nat.le_refl _) (by omega)) q⟩
      exact (od_facts (ta_mo τ) (ta_n τ)).2.2 s hs
    | succ t ih =>
      intro i hi M' fr hK hG hS'
      obtain ⟨k1, k2, k3⟩ := key M' fr
      have hT' := rc_T_F hT k1
      have e := hT'.1
      have hin : i < ta_n τ := by omega
      have hod := (od_facts (ta_mo τ) (ta_n τ)).1
      refine am_go hX [24] 40 ?_
      refine ⟨fun (q : M'.1 1 0 2 ≤ nI i) => absurd q (by rw [e]; exact nI_ge hin (by omega)), fun _ => ?_⟩
      refine ⟨i, by show i < 12; omega, rfl, am_cc (by omega) ?_⟩
      refine (fun (z : X (d - 1) 43 0 [some (.inr (.inl (8, 0))), some (.inr (.inl (1, 0))), some (.inl (M'.1 5 0 i)), none, none, none] [] M' _) => z) ?_
      rw [k3 i hin]
      refine cw_takeIn hX _ _ (by omega) τ hτ hT' (od τ i) (hod i hin) _ (fun s hs => by obtain ⟨i', h1, rfl⟩ := hs; exact hod i' (by omega)) i (by omega) (wd_k τ i) hK hG hS' _ (fun M5 fr5 hK5 hG5 hS5 => ?_)
      refine (fun (z : X d 42 24 [some (.inr (.inl (8, 0))), some (.inr (.inl (1, 0))), some (.inl (nI i + 1))] [] M5 Q) => z) ?_
      rw [nI_1]
      refine ih (i + 1) (by omega) M5 (am_fg_tr fr fr5) (rc_K_P hK5 (fun s hs => ?_)) hG5 hS5
      obtain ⟨i', h1, h2⟩ := hs
      by_cases z : i' = i
      · exact Or.inl (by rw [← h2, z])
      · exact Or.inr ⟨i', by omega, h2⟩
  refine loop (ta_n τ) 0 (by omega) M4 (am_fg_rf _ _ _) ⟨?_, (by decide : 1 ≤ 4), ?_, ?_, fun i hi => ?_⟩ ?_ ?_
  · rw [← hM4, am_si_at, if_pos ⟨rfl, rfl, rfl⟩]; rfl
  · rw [v4]; exact hv.1
  · rw [v4, v4]; exact hv.2
  · have hi : i < 1 := hi
    have hi0 : i = 0 := by omega
    subst hi0
    have e0 : M4.2.1 8 0 = M3.2.1 8 0 := (v4 8 0).trans (v3 8 0).symm
    refine ⟨⟨?_, ?_, fun k hk => ?_, fun s e hs => ?_⟩, by show 0 ≤ 6; omega, by show 0 ≤ _; omega, fun k hk => ?_⟩
    · rw [e0, ← hM4, am_si_at, if_neg (by omega), am_si_at, if_neg (by omega), am_si_at, if_pos ⟨rfl, rfl, rfl⟩]; rfl
    · rw [e0, ← hM4, am_si_at, if_neg (by omega), am_si_at, if_pos ⟨rfl, rfl, rfl⟩]; rfl
    · exact absurd hk (Nat.not_lt_zero k)
    · obtain ⟨i', h1, -⟩ := hs; omega
    · exact absurd hk (Nat.not_lt_zero k)
  · exact ⟨(fr4.2.2 10 0 1 (by simp)).trans g1, (fr4.2.2 10 0 2 (by simp)).trans g2, (fr4.2.2 10 0 3 (by simp)).trans g3, by rw [fr4.1]; exact g4⟩
  · refine ⟨fun k hk => ?_, fun i hi => by rw [v4]; exact hS.2.1 i hi, fun i j hi hj q => by rw [v4, v4] at q; exact hS.2.2 i j hi hj q⟩
    rw [fr4.2.2 16 0 k (by simp), i3 16 0 k (by omega), fr2.2 16 0 k (by simp), am_si_at, if_neg (by omega)]; exact hS.1 k hk
