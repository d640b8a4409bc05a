/-! the reference's order of scans; renew -/
theorem cm_sort {X : am_X} (hX : am_Cl X) (d : Nat) (M : am_M) (τ : ta) (hτ : ta_ok τ) (hT : rm_T M τ) (Q : am_P) (h : ∀ M', am_fr [42] M M' → (∀ i, i < ta_n τ → M'.1 42 0 i = nI (od τ i)) → Q none M') : X d 93 0 [some (.inr (.inl (28, 0))), none, none] [] M Q := by
  obtain ⟨r1, r2, r3, r4, r5⟩ := id hT
  have hn12 := hτ.1
  refine am_go hX [2] 40 ?_
  have outer : ∀ t s : Nat, s + t = ta_n τ → ∀ M' : am_M, am_fr [42] M M' → (∀ i, i < s → M'.1 42 0 i = nI (od_k (ta_mo τ) s i)) → ∀ z, X d 93 2 [some (.inr (.inl (28, 0))), some (.inl (nI s)), z] [] M' Q := by
    intro t
    induction t with
    | zero =>
      intro s hs M' fr ho z
      have hs : s = ta_n τ := by omega
      subst hs
      have e : M'.1 28 0 1 = nI (ta_n τ) := (fr.2 28 0 1 (by simp)).trans r1
      refine am_go hX [2] 40 ?_
      exact ⟨fun _ => h M' fr ho, fun (q : ¬ M'.1 28 0 1 ≤ nI (ta_n τ)) => absurd (by rw [e]; exact nI_le (Nat.le_refl _) (by omega)) q⟩
    | succ t ih =>
      intro s hs M' fr ho z
      have e : M'.1 28 0 1 = nI (ta_n τ) := (fr.2 28 0 1 (by simp)).trans r1
      have hsn : s < ta_n τ := by omega
      have fin : ∀ (p : Nat) (f : Nat → Nat) (M2 : am_M), p ≤ s → am_fr [42] M M2 → (∀ i, i ≤ s → i ≠ p → M2.1 42 0 i = nI (f i)) → f p = s → (∀ i, i < s + 1 → od_k (ta_mo τ) (s + 1) i = f i) → X d 93 36 [some (.inr (.inl (28, 0))), some (.inl (nI s)), some (.inl (nI p))] [] M2 Q := by
        intro p f M2 hp fr2 hf hfp hod
        refine am_go hX [2] 40 ?_
        refine ⟨p, by show p < 12; omega, rfl, ?_⟩
        refine (fun (w : X d 93 2 [some (.inr (.inl (28, 0))), some (.inl (nI s + 1)), some (.inl (nI p))] [] (am_si M2 42 0 p (nI s)) Q) => w) ?_
        rw [nI_1]
        refine ih (s + 1) (by omega) _ (am_fr_si fr2 (by simp)) (fun i hi => ?_) _
        rw [am_si_at, hod i hi]
        by_cases c : i = p
        · rw [if_pos ⟨rfl, rfl, c⟩, c, hfp]
        · rw [if_neg (fun q => c q.2.2)]; exact hf i (by omega) c
      have inner : ∀ (p : Nat) (o : Nat → Nat) (M2 : am_M), p ≤ s → am_fr [42] M M2 → (∀ i, i ≤ s → i ≠ p → M2.1 42 0 i = nI (o i)) → (∀ i, i < p → o i < s) → (∀ i, i < s + 1 → od_k (ta_mo τ) (s + 1) i = od_in (ta_mo τ) s p o i) → X d 93 8 [some (.inr (.inl (28, 0))), some (.inl (nI s)), some (.inl (nI p))] [] M2 Q := by
        intro p
        induction p with
        | zero =>
          intro o M2 hp fr2 hf hlt hod
          refine am_go hX [36] 40 ?_
          refine ⟨fun _ => ?_, fun (q : ¬ nI 0 ≤ 0) => absurd (by decide) q⟩
          exact fin 0 (fun i => if i = 0 then s else o i) M2 hp fr2 (fun i hi hne => by rw [if_neg hne]; exact hf i hi hne) (if_pos rfl) (fun i hi => by rw [hod i hi, od_in])
        | succ p ihp =>
          intro o M2 hp fr2 hf hlt hod
          have hop : o p < s := hlt p (by omega)
          have ep : M2.1 42 0 p = nI (o p) := hf p (by omega) (by omega)
          have m1 : M2.1 32 0 (o p) = nI (ta_mo τ (o p)) := (fr2.2 32 0 _ (by simp)).trans (r3 (o p) (by omega)).2.1
          have m2 : M2.1 32 0 s = nI (ta_mo τ s) := (fr2.2 32 0 _ (by simp)).trans (r3 s hsn).2.1
          have b1 := (hτ.2.2.1 (o p) (by omega)).2.1
          have b2 := (hτ.2.2.1 s hsn).2.1
          refine am_go hX [8, 36] 40 ?_
          refine ⟨fun (q : nI (p + 1) ≤ 0) => absurd q (nI_nle (by omega) (by omega)), fun _ => ?_⟩
          refine ⟨p, by show p < 12; omega, nI_pred p, o p, by show o p < 12; omega, ep, s, by show s < 12; omega, rfl, fun (q : M2.1 32 0 (o p) ≤ M2.1 32 0 s) => ?_, fun (q : ¬ M2.1 32 0 (o p) ≤ M2.1 32 0 s) => ?_⟩
          · rw [m1, m2] at q
            have q := (nI_leI (by omega) (by omega)).mp q
            exact fin (p + 1) (fun i => if i = p + 1 then s else o i) M2 hp fr2 (fun i hi hne => by rw [if_neg hne]; exact hf i hi hne) (if_pos rfl) (fun i hi => by rw [hod i hi, od_in, if_neg (by omega)])
          · rw [m1, m2] at q
            have q : ta_mo τ s < ta_mo τ (o p) := by
              rcases Nat.lt_or_ge (ta_mo τ s) (ta_mo τ (o p)) with w | w
              · exact w
              · exact absurd (nI_le w (by omega)) q
            refine ⟨p, by show p < 12; omega, nI_pred p, p + 1, by show p + 1 < 12; omega, rfl, ?_⟩
            refine (fun (w : X d 93 8 [some (.inr (.inl (28, 0))), some (.inl (nI s)), some (.inl (nI (p + 1) + (-1)))] [] (am_si M2 42 0 (p + 1) (M2.1 42 0 p)) Q) => w) ?_
            rw [pk_m1, ep]
            refine ihp (fun i => if i = p + 1 then o p else o i) _ (by omega) (am_fr_si fr2 (by simp)) (fun i hi hne => ?_) (fun i hi => by rw [if_neg (by omega)]; exact hlt i (by omega)) (fun i hi => by rw [hod i hi, od_in, if_pos q])
            rw [am_si_at]
            by_cases c : i = p + 1
            · rw [if_pos ⟨rfl, rfl, c⟩, if_pos c]
            · rw [if_neg (fun w => c w.2.2), if_neg c]; exact hf i hi c
      refine am_go hX [8] 40 ?_
      refine ⟨fun (q : M'.1 28 0 1 ≤ nI s) => absurd q (by rw [e]; exact nI_ge hsn (by omega)), fun _ => ?_⟩
      exact inner s (od_k (ta_mo τ) s) M' (Nat.le_refl s) fr (fun i hi hne => ho i (by omega)) (fun i hi => (od_facts (ta_mo τ) s).1 i hi) (fun i hi => rfl)
  exact outer (ta_n τ) 0 (by omega) M (am_fr_rf _ M) (fun i hi => by omega) _
/-- the reference's reckoned part; behind a renew -/
def rm_D (M : am_M) (τ : ta) : Prop := (∀ i, i < ta_n τ → M.1 42 0 i = nI (od τ i)) ∧ rm_K M τ (fun s => s < ta_n τ) (ta_n τ) (wds τ)
def rm_F (M M' : am_M) : Prop := am_fr [28, 42, 43, 44, 45, 46, 47, 48, 49, 50, 51, 52, 53, 54, 55, 56, 57, 58] M M' ∧ ∀ k, k ∉ [16, 18, 19, 33] → M'.1 28 0 k = M.1 28 0 k
theorem rm_T_F {M M' : am_M} {τ : ta} (h : rm_T M τ) (fr : rm_F M M') : rm_T M' τ := rm_T_fr' h (am_fg_of fr.1 []) (fr.2 1 (by simp)) (by simp)
theorem rm_F_tr {M M' M'' : am_M} (h : rm_F M M') (h' : rm_F M' M'') : rm_F M M'' := ⟨am_fr_tr h.1 h'.1, fun k hk => (h'.2 k hk).trans (h.2 k hk)⟩
theorem rm_K_P {M : am_M} {τ : ta} {P P' : Nat → Prop} {m : Nat} {ws : List wd} (h : rm_K M τ P m ws) (hP : ∀ s, P' s → P s) : rm_K M τ P' m ws := by
  obtain ⟨q1, q2, b, q3, q4, q5⟩ := h
  exact ⟨q1, q2, b, q3, q4, fun i hi => ⟨⟨(q5 i hi).1.1, (q5 i hi).1.2.1, (q5 i hi).1.2.2.1, fun s e hs he => (q5 i hi).1.2.2.2 s e (hP s hs) he⟩, (q5 i hi).2⟩⟩
set_option maxHeartbeats 1000000 in
theorem cm_renew {X : am_X} (hX : am_Cl X) (d : Nat) (M : am_M) (hd : 4 ≤ d) (τ : ta) (hτ : ta_ok τ) (hT : rm_T M τ) (hE : rm_E M) (hD : M.1 28 0 16 = 0 → rm_D M τ) (Q : am_P)
    (h : ∀ M', rm_F M M' → rm_D M' τ → rm_E M' → M'.1 28 0 16 = 0 → Q none M') : X d 107 0 [some (.inr (.inl (28, 0))), none] [] M Q := by
  have hn12 := hτ.1
  refine am_go hX [27] 60 ?_
  refine ⟨fun _ => ?_, fun (q : ¬ ¬ M.1 28 0 16 = 0) => h M ⟨am_fr_rf _ _, fun _ _ => rfl⟩ (hD (Classical.not_not.mp q)) hE (Classical.not_not.mp q)⟩
  have F1 : rm_F M (am_si M 28 0 16 0) := ⟨am_fr_si (am_fr_rf _ _) (by simp), fun k hk => by rw [am_si_at, if_neg (fun z => hk (by rw [z.2.2]; simp))]⟩
  refine ⟨Or.inl rfl, am_cc (by omega) (cm_sort hX _ _ τ hτ (rm_T_F hT F1) _ (fun M2 fr2 ho2 => ?_))⟩
  refine ⟨0, by show 0 < 8; omega, rfl, 0, by show 0 < 8; omega, rfl, ?_⟩
  refine (fun (z : X d 107 27 [some (.inr (.inl (28, 0))), some (.inl (nI 0))] [] (am_si (am_si (am_si (am_si M2 28 0 18 1) 28 0 19 0) 43 0 0 0) 44 0 0 0) Q) => z) ?_
  generalize hM4 : am_si (am_si (am_si (am_si M2 28 0 18 1) 28 0 19 0) 43 0 0 0) 44 0 0 0 = M4
  have F4 : rm_F M M4 := by
    rw [← hM4]
    refine ⟨am_fr_si (am_fr_si (am_fr_si (am_fr_si (am_fr_tr F1.1 (am_fr_mono fr2 (by simp))) (by simp)) (by simp)) (by simp)) (by simp), fun k hk => ?_⟩
    simp at hk
    rw [am_si_at, if_neg (by omega), am_si_at, if_neg (by omega), am_si_at, if_neg (by omega), am_si_at, if_neg (by omega), fr2.2 28 0 k (by simp)]
    exact F1.2 k (by simp; omega)
  have h16 : M4.1 28 0 16 = 0 := by
    rw [← hM4, am_si_at, if_neg (by omega), am_si_at, if_neg (by omega), am_si_at, if_neg (by omega), am_si_at, if_neg (by omega), fr2.2 28 0 16 (by simp), am_si_at, if_pos ⟨rfl, rfl, rfl⟩]
  have ho4 : ∀ i, i < ta_n τ → M4.1 42 0 i = nI (od τ i) := fun i hi => by
    rw [← hM4, am_si_at, if_neg (by omega), am_si_at, if_neg (by omega), am_si_at, if_neg (by omega), am_si_at, if_neg (by omega)]; exact ho2 i hi
  have hE4 : rm_E M4 := fun k hk => by
    rw [← hM4, am_si_at, if_neg (by omega), am_si_at, if_neg (by omega), am_si_at, if_neg (by omega), am_si_at, if_neg (by omega), fr2.2 54 0 k (by simp), am_si_at, if_neg (by omega)]; exact hE k hk
  have hod := (od_facts (ta_mo τ) (ta_n τ)).1
  have loop : ∀ t i : Nat, i + t = ta_n τ → ∀ M' : am_M, rm_F M M' → M'.1 28 0 16 = 0 → (∀ i, i < ta_n τ → M'.1 42 0 i = nI (od τ i)) → rm_K M' τ (fun s => ∃ i', i' < i ∧ od τ i' = s) i (wd_k τ i) → rm_E M' → X d 107 27 [some (.inr (.inl (28, 0))), some (.inl (nI i))] [] M' Q := by
    intro t
    induction t with
    | zero =>
      intro i hi M' F hc ho hK hE'
      have hi : i = ta_n τ := by omega
      subst hi
      have e := (rm_T_F hT F).1
      refine am_go hX [27] 40 ?_
      refine ⟨fun _ => h M' F ⟨ho, rm_K_P hK (fun s hs => (od_facts (ta_mo τ) (ta_n τ)).2.2 s hs)⟩ hE' hc, fun (q : ¬ M'.1 28 0 1 ≤ nI (ta_n τ)) => absurd (by rw [e]; exact nI_le (Nat.le_refl _) (by omega)) q⟩
    | succ t ih =>
      intro i hi M' F hc ho hK hE'
      have hT' := rm_T_F hT F
      have e := hT'.1
      have hin : i < ta_n τ := by omega
      refine am_go hX [27] 40 ?_
      refine ⟨fun (q : M'.1 28 0 1 ≤ nI i) => absurd q (by rw [e]; exact nI_ge hin (by omega)), fun _ => ?_⟩
      refine ⟨i, by show i < 12; omega, rfl, am_cc (by omega) ?_⟩
      refine (fun (z : X (d - 1) 106 0 [some (.inr (.inl (28, 0))), some (.inl (M'.1 42 0 i)), none, none, none, none, none] [] M' _) => z) ?_
      rw [ho i hin]
      refine cm_takeScan hX _ _ (by omega) τ hτ hT' hE' (od τ i) (hod i hin) _ (fun s hs => by obtain ⟨i', h1, rfl⟩ := hs; exact hod i' (by omega)) i (by omega) (wd_k τ i) hK _ (fun M5 fr5 h285 hK5 hE5 => ?_)
      refine (fun (z : X d 107 27 [some (.inr (.inl (28, 0))), some (.inl (nI i + 1))] [] M5 Q) => z) ?_
      rw [nI_1]
      refine ih (i + 1) (by omega) M5 (rm_F_tr F ⟨am_fr_mono fr5 (by simp), fun k hk => by simp at hk; exact h285 k (by omega) (by omega) (by omega)⟩) ((h285 16 (by omega) (by omega) (by omega)).trans hc) (fun i' hi' => (fr5.2 42 0 i' (by simp)).trans (ho i' hi')) (rm_K_P hK5 (fun s hs => ?_)) hE5
      obtain ⟨i', h1, h2⟩ := hs
      by_cases z : i' = i
      · exact Or.inl (by rw [← h2, z])
      · exact Or.inr ⟨i', by omega, h2⟩
  refine loop (ta_n τ) 0 (by omega) M4 F4 h16 ho4 ⟨?_, (by decide : 1 ≤ 4), 0, Or.inl rfl, ?_, fun i hi => ?_⟩ hE4
  · rw [← hM4, am_si_at, if_neg (by omega), am_si_at, if_neg (by omega), am_si_at, if_neg (by omega), am_si_at, if_pos ⟨rfl, rfl, rfl⟩]; rfl
  · rw [← hM4, am_si_at, if_neg (by omega), am_si_at, if_neg (by omega), am_si_at, if_pos ⟨rfl, rfl, rfl⟩]; rfl
  · have hi : i < 1 := hi
    have hi0 : i = 0 := by omega
    subst hi0
    refine ⟨⟨?_, ?_, fun k hk => ?_, fun s e hs => ?_⟩, by show 0 ≤ 6; omega, by show 0 ≤ _; omega, fun k hk => ?_⟩
    · rw [← hM4, am_si_at, if_neg (by omega), am_si_at, if_pos ⟨rfl, rfl, rfl⟩]; rfl
    · rw [← hM4, am_si_at, if_pos ⟨rfl, rfl, rfl⟩]; rfl
    · exact absurd hk (Nat.not_lt_zero k)
    · obtain ⟨i', h1, -⟩ := hs; omega
    · exact absurd hk (Nat.not_lt_zero k)
