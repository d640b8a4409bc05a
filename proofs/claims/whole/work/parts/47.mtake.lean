/-! the reference takes a scan in -/
def jc (τ : ta) (s : Nat) (w : wd) (code : Nat) : Option (Nat × List Nat) :=
  (jv (fun k e => tk_toll τ (wd_t w k) s e) (wd_n w) (ta_ru τ 2) (ta_ru τ 3) (dg (ta_dn τ s) code) (ta_dn τ s) 0 (fun _ => false) 0).map fun y => (wd_c w + y.1 + jn_cnt (fun k => decide (wd_t w k 8 = 0)) y.2 (wd_n w) * ta_ru τ 1, dgs (ta_dn τ s) code)
theorem jn_all_codes {τ : ta} (hτ : ta_ok τ) (s : Nat) (w : wd) (hw : wd_n w ≤ 6) : jn_all τ s w = (List.range (8 ^ ta_dn τ s)).filterMap (jc τ s w) := by
  unfold jn_all
  rw [jn_sub_dls _ (fun k => decide (wd_t w k 8 = 0)) _ _ _ _ hw (fun k e t h => by simpa using (tk_toll_le hτ h).2) _ _ _ _ _ _ _ (wd_lk_cnt _ _), dls_map _ (fun x => x), List.filterMap_map]
  congr 1
  funext c
  show Option.map _ (jv _ _ _ _ (fun i => am_nth (dgs (ta_dn τ s) c) (i - 0) 9) _ _ _ _) = jc τ s w c
  unfold jc
  rw [jv_c (g := fun i => am_nth (dgs (ta_dn τ s) c) (i - 0) 9) (g' := dg (ta_dn τ s) c) _ _ _ _ _ _ _ _ (fun i h1 h2 => dgs_at (by omega))]
  rfl
def rm_E (M : am_M) : Prop := ∀ k, k < 48 → M.1 54 0 k = 0 ∨ M.1 54 0 k = 1
def rm_K (M : am_M) (τ : ta) (P : Nat → Prop) (m : Nat) (ws : List wd) : Prop :=
  M.1 28 0 18 = nI ws.length ∧ ws.length ≤ 4 ∧ ∃ b, (b = 0 ∨ b = 4) ∧ M.1 28 0 19 = nI b ∧ ∀ i, i < ws.length → rm_W M τ P (b + i) (am_nth ws i wd_0) ∧ wd_ok m (am_nth ws i wd_0)
theorem rm_W_fr {M M' : am_M} {L : List Nat} {τ : ta} {P : Nat → Prop} {p : Nat} {w : wd} (h : rm_W M τ P p w) (fr : am_fr L M M') (hL : ∀ f, 43 ≤ f → f ≤ 54 → f ∉ L) : rm_W M' τ P p w := by
  obtain ⟨h1, h2, h3, h4⟩ := h
  exact ⟨(fr.2 _ _ _ (hL 43 (by omega) (by omega))).trans h1, (fr.2 _ _ _ (hL 44 (by omega) (by omega))).trans h2, fun k hk j hj => (fr.2 _ _ _ (hL _ (by omega) (by omega))).trans (h3 k hk j hj), fun s e hs he => (fr.2 _ _ _ (hL 45 (by omega) (by omega))).trans (h4 s e hs he)⟩
theorem rm_W_only {M M' : am_M} {b : Nat} {τ : ta} {P : Nat → Prop} {p : Nat} {w : wd} (hP : ∀ s, P s → s < 12 ∧ ta_dn τ s ≤ 4) (hw : wd_n w ≤ 6) (h : rm_W M τ P p w) (ho : rm_only b M M') (hpb : p ≠ b) : rm_W M' τ P p w := by
  obtain ⟨h1, h2, h3, h4⟩ := h
  refine ⟨(ho.2 _ _ _ (fun z => by unfold rm_in at z; omega)).trans h1, (ho.2 _ _ _ (fun z => by unfold rm_in at z; omega)).trans h2, fun k hk j hj => (ho.2 _ _ _ (fun z => by unfold rm_in at z; omega)).trans (h3 k hk j hj), fun s e hs he => ?_⟩
  obtain ⟨p1, p2⟩ := hP s hs
  exact (ho.2 _ _ _ (fun z => by unfold rm_in at z; omega)).trans (h4 s e hs he)
theorem cm_L_fr {M M' : am_M} {L : List Nat} {K b n : Nat} {l : List jn} (h : cm_L M K b n l) (fr : am_fr L M M') (hL : 28 ∉ L ∧ 56 ∉ L ∧ 57 ∉ L ∧ 58 ∉ L) : cm_L M' K b n l := by
  obtain ⟨h1, h2, h3, h4⟩ := h
  refine ⟨(fr.2 _ _ _ hL.1).trans h1, h2, h3, fun i hi => ?_⟩
  rw [fr.2 _ _ _ hL.2.1, fr.2 _ _ _ hL.2.2.1, fr.2 _ _ _ hL.2.2.2]; exact h4 i hi
theorem mk_shl8 : ∀ n, n < 5 → (1 : Int32) <<< (3 * nI n &&& 31) = nI (8 ^ n) := by decide +kernel
set_option maxHeartbeats 2000000 in
theorem cm_takeScan {X : am_X} (hX : am_Cl X) (d : Nat) (M : am_M) (hd : 3 ≤ d) (τ : ta) (hτ : ta_ok τ) (hT : rm_T M τ) (hE : rm_E M) (s : Nat) (hs : s < ta_n τ) (P : Nat → Prop) (hP : ∀ s, P s → s < ta_n τ) (m : Nat) (hm : m < 12) (ws : List wd) (hK : rm_K M τ P m ws) (Q : am_P)
    (h : ∀ M', am_fr [28, 43, 44, 45, 46, 47, 48, 49, 50, 51, 52, 53, 54, 55, 56, 57, 58] M M' → (∀ k, k ≠ 18 → k ≠ 19 → k ≠ 33 → M'.1 28 0 k = M.1 28 0 k) → rm_K M' τ (fun s' => s' = s ∨ P s') (m + 1) (wd_step τ s ws) → rm_E M' → Q none M') : X d 106 0 [some (.inr (.inl (28, 0))), some (.inl (nI s)), none, none, none, none, none] [] M Q := by
  obtain ⟨q1, q2, b, hb, q3, q4⟩ := hK
  obtain ⟨t1, t2, t3, t4, t5⟩ := id hT
  obtain ⟨a1, a2, a3, a4⟩ := t3 s hs
  have hK5 := hτ.2.2.2.2.2.2.2.2.2
  have hn12 := hτ.1
  have hbest := jn_best_ok hτ hs (fun i hi => (q4 i hi).2)
  have hst := wd_step_ok hτ hs (fun i hi => (q4 i hi).2)
  have h4 := (hτ.2.2.1 s hs).2.2.1
  have hP12 : ∀ s, P s → s < 12 ∧ ta_dn τ s ≤ 4 := fun s' hs' => ⟨by have := hP s' hs'; omega, (hτ.2.2.1 s' (hP s' hs')).2.2.1⟩
  have hP12' : ∀ s', (s' = s ∨ P s') → s' < 12 ∧ ta_dn τ s' ≤ 4 := fun s' hs' => by
    rcases hs' with rfl | hs'
    · exact ⟨by omega, h4⟩
    · exact hP12 s' hs'
  generalize hKK : ta_ru τ 5 = K at *
  generalize hnn : ta_dn τ s = n at *
  have hnx : (4 : Int32) - nI b = nI (4 - b) := by rcases hb with rfl | rfl <;> rfl
  have h8 : 8 ^ n ≤ 4096 := by
    have : n = 0 ∨ n = 1 ∨ n = 2 ∨ n = 3 ∨ n = 4 := by omega
    rcases this with z | z | z | z | z <;> rw [z] <;> decide
  generalize hN : 8 ^ n = N at *
  generalize hf : (fun i => (jn_all τ s (am_nth ws i wd_0)).map fun c => ((c.1, i, c.2) : jn)) = f
  have hbl : jn_best τ s ws = ((List.range ws.length).flatMap f).foldl (jn_off K) [] := by rw [← hf, ← hKK]; rfl
  -- frames keep what was told
  have keepT : ∀ M' : am_M, am_fr [28, 43, 44, 45, 46, 47, 48, 49, 50, 51, 52, 53, 54, 55, 56, 57, 58] M M' → (∀ k, k ≠ 33 → M'.1 28 0 k = M.1 28 0 k) → rm_T M' τ := fun M' fr h28 => rm_T_fr' hT (am_fg_of fr []) (h28 1 (by omega)) (by simp)
  -- the end
  have fin : ∀ (M2 : am_M), am_fr [28, 43, 44, 45, 46, 47, 48, 49, 50, 51, 52, 53, 54, 55, 56, 57, 58] M M2 → (∀ k, k ≠ 33 → M2.1 28 0 k = M.1 28 0 k) → rm_E M2 → M2.1 28 0 33 = nI (jn_best τ s ws).length → (∀ i, i < (jn_best τ s ws).length → rm_W M2 τ (fun s' => s' = s ∨ P s') (4 - b + i) (am_nth (wd_step τ s ws) i wd_0)) → ∀ z4 z5 z6, X d 106 96 [some (.inr (.inl (28, 0))), some (.inl (nI s)), some (.inl (nI N)), some (.inl (nI (4 - b))), z4, z5, z6] [] M2 Q := by
    intro M2 fr2 h28 hE2 hlen hw2 z4 z5 z6
    refine am_go hX [] 40 ?_
    refine (fun (z : Q none (am_si (am_si M2 28 0 18 (M2.1 28 0 33)) 28 0 19 (nI (4 - b)))) => z) ?_
    have fr3 : am_fr [28] M2 (am_si (am_si M2 28 0 18 (M2.1 28 0 33)) 28 0 19 (nI (4 - b))) := am_fr_si (am_fr_si (am_fr_rf _ _) (by simp)) (by simp)
    refine h _ (am_fr_tr fr2 (am_fr_mono fr3 (by simp))) (fun k x1 x2 x3 => ?_) ⟨?_, ?_, 4 - b, by omega, ?_, fun i hi => ?_⟩ (fun k hk => ?_)
    · rw [am_si_at, if_neg (by omega), am_si_at, if_neg (by omega)]; exact h28 k x3
    · rw [am_si_at, if_neg (by omega), am_si_at, if_pos ⟨rfl, rfl, rfl⟩, hlen, hst.1]
    · rw [hst.1]; have := hbest.1; omega
    · rw [am_si_at, if_pos ⟨rfl, rfl, rfl⟩]
    · rw [hst.1] at hi
      exact ⟨rm_W_fr (hw2 i hi) fr3 (fun f _ _ => by simp; omega), (hst.2 i hi).2⟩
    · rw [fr3.2 54 0 k (by simp)]; exact hE2 k hk
  -- second loop: carrying out
  have carry : ∀ r i : Nat, i + r = (jn_best τ s ws).length → ∀ M2 : am_M, am_fr [28, 43, 44, 45, 46, 47, 48, 49, 50, 51, 52, 53, 54, 55, 56, 57, 58] M M2 → (∀ k, k ≠ 33 → M2.1 28 0 k = M.1 28 0 k) → rm_E M2 → cm_L M2 K b n (jn_best τ s ws) → (∀ p, p < ws.length → rm_W M2 τ P (b + p) (am_nth ws p wd_0)) → (∀ i', i' < i → rm_W M2 τ (fun s' => s' = s ∨ P s') (4 - b + i') (am_nth (wd_step τ s ws) i' wd_0)) → ∀ z5 z6, X d 106 61 [some (.inr (.inl (28, 0))), some (.inl (nI s)), some (.inl (nI N)), some (.inl (nI (4 - b))), some (.inl (nI i)), z5, z6] [] M2 Q := by
    intro r
    induction r with
    | zero =>
      intro i hi M2 fr2 h28 hE2 hL2 hkept hdone z5 z6
      have hi : i = (jn_best τ s ws).length := by omega
      subst hi
      refine am_go hX [61, 96] 40 ?_
      refine ⟨fun _ => fin M2 fr2 h28 hE2 hL2.1 hdone _ _ _, fun (q : ¬ M2.1 28 0 33 ≤ nI (jn_best τ s ws).length) => absurd (by rw [hL2.1]; exact nI_le (Nat.le_refl _) (by have := hbest.1; omega)) q⟩
    | succ r ih =>
      intro i hi M2 fr2 h28 hE2 hL2 hkept hdone z5 z6
      have hbl' := hbest.1
      have hil : i < (jn_best τ s ws).length := by omega
      obtain ⟨c1, c2, c3, code, c4, c5, c6⟩ := hL2.2.2.2 i hil
      obtain ⟨x1, x2, x3, x4⟩ := hbest.2.2 _ (am_nth_in (d := jn_0) hil)
      generalize hx : am_nth (jn_best τ s ws) i jn_0 = x at c1 c2 c3 c6 x1 x2 x3 x4
      have hne : b + x.2.1 ≠ 4 - b + i := by omega
      have ixn : nI (4 - b) + nI i = nI (4 - b + i) := nI_add _ _
      have lt8 : 4 - b + i < 8 := by omega
      have hWp := hkept x.2.1 x1
      have hokp := (q4 x.2.1 x1).2
      refine am_go hX [61] 60 ?_
      refine ⟨fun (q : M2.1 28 0 33 ≤ nI i) => absurd q (by rw [hL2.1]; exact nI_ge hil (by omega)), fun _ => ?_⟩
      refine ⟨i, by show i < 5; omega, rfl, am_cc (by omega) ?_⟩
      refine (fun (z : X (d - 1) 101 0 [some (.inr (.inl (28, 0))), some (.inl (M2.1 57 0 i)), some (.inl (nI (4 - b) + nI i)), none, none, none] [] M2 _) => z) ?_
      rw [c2, ixn]
      refine cm_copyWorld hX _ _ hE2 (b + x.2.1) (4 - b + i) (by omega) lt8 hne _ (fun M3 ho3 g1 g2 g3 g4 => ?_)
      have fr3 := rm_only_fr ho3
      have e56 : M3.1 56 0 i = nI x.1 := (fr3.2 56 0 i (by simp)).trans c1
      have e58 : M3.1 58 0 i = nI code := (fr3.2 58 0 i (by simp)).trans c5
      refine ⟨i, by show i < 5; omega, rfl, 4 - b + i, lt8, ixn, i, by show i < 5; omega, rfl, am_cc (by omega) ?_⟩
      refine (fun (z : X (d - 1) 105 0 [some (.inr (.inl (28, 0))), some (.inl (nI (4 - b) + nI i)), some (.inl (nI s)), some (.inl (M3.1 58 0 i)), none, none, none, none, none, none] [] (am_si M3 43 0 (4 - b + i) (M3.1 56 0 i)) _) => z) ?_
      rw [e56, e58, ixn]
      generalize hM4 : am_si M3 43 0 (4 - b + i) (nI x.1) = M4
      have ho4 : rm_only (4 - b + i) M2 M4 := by rw [← hM4]; exact rm_only_si ho3 (by unfold rm_in; omega)
      have fr4 := rm_only_fr ho4
      have f4 : ∀ f i k, f ≠ 43 → M4.1 f i k = M3.1 f i k := fun f i k z => by rw [← hM4, am_si_at, if_neg (fun y => z y.1)]
      have hE4 : rm_E M4 := by
        intro k hk
        rw [f4 54 0 k (by omega)]
        by_cases z : 6 * (4 - b + i) ≤ k ∧ k < 6 * (4 - b + i) + 6
        · have := g4 8 (k - 6 * (4 - b + i)) (by omega) (by omega)
          rw [show 6 * (4 - b + i) + (k - 6 * (4 - b + i)) = k by omega] at this
          rw [this]; exact hE2 _ (by omega)
        · rw [ho3.2 54 0 k (fun y => by unfold rm_in at y; omega)]; exact hE2 k hk
      have hT4 : rm_T M4 τ := keepT M4 (am_fr_tr fr2 (am_fr_mono fr4 (by simp))) (fun k hk => (fr4.2 28 0 k (by simp)).trans (h28 k hk))
      refine cm_apply hX _ _ (by omega) τ hτ hT4 hE4 s (4 - b + i) hs lt8 P hP (am_nth ws x.2.1 wd_0) m hokp x.1 code c4 ?_ ?_ (fun k hk j hj => ?_) (fun s' e' hs' he' => ?_) x.2.2 (by rw [hnn]; exact c6) (by rw [hnn]; exact x2) (by rw [hnn]; exact x3) _ (fun M5 ho5 hW5 hE5 => ?_)
      · rw [← hM4, am_si_at, if_pos ⟨rfl, rfl, rfl⟩]
      · rw [f4 _ _ _ (by omega), g2]; exact hWp.2.1
      · rw [f4 _ _ _ (by omega), g4 j k hj (by have := hokp.1; omega)]; exact hWp.2.2.1 k hk j hj
      · obtain ⟨p1, p2⟩ := hP12 s' hs'
        rw [f4 _ _ _ (by omega), g3 (4 * s' + e') (by omega)]; exact hWp.2.2.2 s' e' hs' he'
      have ho : rm_only (4 - b + i) M2 M5 := rm_only_tr ho4 ho5
      have fr5 := rm_only_fr ho
      refine (fun (z : X d 106 61 [some (.inr (.inl (28, 0))), some (.inl (nI s)), some (.inl (nI N)), some (.inl (nI (4 - b))), some (.inl (nI i + 1)), z5, z6] [] M5 Q) => z) ?_
      rw [nI_1]
      refine ih (i + 1) (by omega) M5 (am_fr_tr fr2 (am_fr_mono fr5 (by simp))) (fun k hk => (fr5.2 28 0 k (by simp)).trans (h28 k hk)) hE5 (cm_L_fr hL2 fr5 (by simp)) (fun p hp => rm_W_only hP12 (q4 p hp).2.1 (hkept p hp) ho (by omega)) (fun i' hi' => ?_) _ _
      by_cases z : i' = i
      · subst z
        rw [(hst.2 i' hil).1, hx]; exact hW5
      · exact rm_W_only hP12' (hst.2 i' (by omega)).2.1 (hdone i' (by omega)) ho (by omega)
  -- first loop: all codes of all worlds
  have deal : ∀ r i : Nat, i + r = ws.length → ∀ M2 : am_M, am_fr [28, 55, 56, 57, 58] M M2 → (∀ k, k ≠ 33 → M2.1 28 0 k = M.1 28 0 k) → cm_L M2 K b n (((List.range i).flatMap f).foldl (jn_off K) []) → ∀ z4 z5 z6, X d 106 14 [some (.inr (.inl (28, 0))), some (.inl (nI s)), some (.inl (nI N)), some (.inl (nI i)), z4, z5, z6] [] M2 Q := by
    intro r
    induction r with
    | zero =>
      intro i hi M2 fr2 h28 hL2 z4 z5 z6
      have hi : i = ws.length := by omega
      subst hi
      rw [← hbl] at hL2
      have e18 : M2.1 28 0 18 = nI ws.length := (h28 18 (by omega)).trans q1
      have e19 : M2.1 28 0 19 = nI b := (h28 19 (by omega)).trans q3
      refine am_go hX [14, 61] 40 ?_
      refine ⟨fun _ => ?_, fun (q : ¬ M2.1 28 0 18 ≤ nI ws.length) => absurd (by rw [e18]; exact nI_le (Nat.le_refl _) (by omega)) q⟩
      refine (fun (z : X d 106 61 [some (.inr (.inl (28, 0))), some (.inl (nI s)), some (.inl (nI N)), some (.inl (4 - M2.1 28 0 19)), some (.inl (nI 0)), z5, z6] [] M2 Q) => z) ?_
      rw [e19, hnx]
      exact carry (jn_best τ s ws).length 0 (by omega) M2 (am_fr_mono fr2 (by simp)) h28 (fun k hk => by rw [fr2.2 54 0 k (by simp)]; exact hE k hk) hL2 (fun p hp => rm_W_fr (q4 p hp).1 fr2 (fun f _ _ => by simp; omega)) (fun i' hi' => by omega) _ _
    | succ r ih =>
      intro i hi M2 fr2 h28 hL2 z4 z5 z6
      have hil : i < ws.length := by omega
      have e18 : M2.1 28 0 18 = nI ws.length := (h28 18 (by omega)).trans q1
      have e19 : M2.1 28 0 19 = nI b := (h28 19 (by omega)).trans q3
      have hT2 : rm_T M2 τ := keepT M2 (am_fr_mono fr2 (by simp)) h28
      have hW2 := rm_W_fr (q4 i hil).1 fr2 (fun f _ _ => by simp; omega)
      have hokw := (q4 i hil).2
      generalize hl0 : ((List.range i).flatMap f).foldl (jn_off K) [] = l0 at hL2
      generalize hw0 : am_nth ws i wd_0 = w at hW2 hokw
      refine am_go hX [14, 29] 40 ?_
      refine ⟨fun (q : M2.1 28 0 18 ≤ nI i) => absurd q (by rw [e18]; exact nI_ge hil (by omega)), fun _ => am_cc (by omega) ?_⟩
      refine (fun (z : X (d - 1) 97 0 [some (.inr (.inl (28, 0))), some (.inl (M2.1 28 0 19 + nI i)), some (.inl (nI s)), none, none, none, none, none, none, none, none, none, none] [] M2 _) => z) ?_
      rw [e19, nI_add]
      refine cm_findJoins hX _ _ (by omega) τ hτ hT2 s (b + i) hs (by omega) P w hW2 m hokw _ (fun M3 fr3 hj3 => ?_)
      refine (fun (z : X d 106 29 [some (.inr (.inl (28, 0))), some (.inl (nI s)), some (.inl (nI N)), some (.inl (nI i)), some (.inl (nI (b + i))), some (.inl (nI 0)), z6] [] M3 Q) => z) ?_
      have hL3 : cm_L M3 K b n l0 := cm_L_fr hL2 fr3 (by simp)
      -- the codes
      have codes : ∀ r2 code : Nat, code + r2 = N → ∀ M4 : am_M, am_fr [28, 56, 57, 58] M3 M4 → (∀ k, k ≠ 33 → M4.1 28 0 k = M3.1 28 0 k) → cm_L M4 K b n ((((List.range code).filterMap (jc τ s w)).map fun c => ((c.1, i, c.2) : jn)).foldl (jn_off K) l0) → ∀ z6, X d 106 29 [some (.inr (.inl (28, 0))), some (.inl (nI s)), some (.inl (nI N)), some (.inl (nI i)), some (.inl (nI (b + i))), some (.inl (nI code)), z6] [] M4 Q := by
        intro r2
        induction r2 with
        | zero =>
          intro code hcode M4 fr4 h284 hL4 z6
          have hcode : code = N := by omega
          subst hcode
          refine am_go hX [14, 29] 40 ?_
          refine ⟨fun _ => ?_, fun (q : ¬ nI code ≤ nI code) => absurd (nI_le (Nat.le_refl _) (by omega)) q⟩
          refine (fun (z : X d 106 14 [some (.inr (.inl (28, 0))), some (.inl (nI s)), some (.inl (nI code)), some (.inl (nI i + 1)), some (.inl (nI (b + i))), some (.inl (nI code)), z6] [] M4 Q) => z) ?_
          rw [nI_1]
          refine ih (i + 1) (by omega) M4 (am_fr_tr fr2 (am_fr_tr (am_fr_mono fr3 (by simp)) (am_fr_mono fr4 (by simp)))) (fun k hk => (h284 k hk).trans ((fr3.2 28 0 k (by simp)).trans (h28 k hk))) ?_ _ _ _
          rw [List.range_succ, List.flatMap_append, List.foldl_append, hl0]
          have e : ([i] : List Nat).flatMap f = ((List.range code).filterMap (jc τ s w)).map fun c => ((c.1, i, c.2) : jn) := by
            rw [← hf, List.flatMap_cons, List.flatMap_nil, List.append_nil, hw0, jn_all_codes hτ s w hokw.1, hnn, hN]
          rw [e]; exact hL4
        | succ r2 ih2 =>
          intro code hcode M4 fr4 h284 hL4 z6
          have hcl : code < 4096 := by omega
          have fr34 : am_fr [28, 55, 56, 57, 58] M M4 := am_fr_tr fr2 (am_fr_tr (am_fr_mono fr3 (by simp)) (am_fr_mono fr4 (by simp)))
          have h28m : ∀ k, k ≠ 33 → M4.1 28 0 k = M.1 28 0 k := fun k hk => (h284 k hk).trans ((fr3.2 28 0 k (by simp)).trans (h28 k hk))
          have hT4 : rm_T M4 τ := keepT M4 (am_fr_mono fr34 (by simp)) h28m
          have hW4 : rm_W M4 τ P (b + i) w := rm_W_fr (rm_W_fr hW2 fr3 (fun f _ _ => by simp; omega)) fr4 (fun f _ _ => by simp; omega)
          have hj4 : ∀ e k, e < ta_dn τ s → k < 8 → M4.1 55 0 (8 * e + k) = mj_v τ s w e k := fun e k he hk => (fr4.2 55 0 _ (by simp)).trans (hj3 e k he hk)
          -- behind this code
          have nxt : ∀ M5 : am_M, am_fr [28, 56, 57, 58] M3 M5 → (∀ k, k ≠ 33 → M5.1 28 0 k = M3.1 28 0 k) → cm_L M5 K b n ((((List.range (code + 1)).filterMap (jc τ s w)).map fun c => ((c.1, i, c.2) : jn)).foldl (jn_off K) l0) → ∀ z6, X d 106 50 [some (.inr (.inl (28, 0))), some (.inl (nI s)), some (.inl (nI N)), some (.inl (nI i)), some (.inl (nI (b + i))), some (.inl (nI code)), z6] [] M5 Q := by
            intro M5 fr5 h285 hL5 z6
            refine am_go hX [29] 40 ?_
            refine (fun (z : X d 106 29 [some (.inr (.inl (28, 0))), some (.inl (nI s)), some (.inl (nI N)), some (.inl (nI i)), some (.inl (nI (b + i))), some (.inl (nI code + 1)), z6] [] M5 Q) => z) ?_
            rw [nI_1]
            exact ih2 (code + 1) (by omega) M5 fr5 h285 hL5 _
          rw [List.range_succ, List.filterMap_append, List.map_append, List.foldl_append] at nxt
          refine am_go hX [29, 50] 40 ?_
          refine ⟨fun (q : nI N ≤ nI code) => absurd q (nI_ge (by omega) (by omega)), fun _ => am_cc (by omega) ?_⟩
          refine cm_costOf hX _ _ (by omega) τ hτ hT4 s (b + i) hs (by omega) P w hW4 m hokw hj4 code hcl _ (fun hv => ?_) (fun x tak hv hx => ?_)
          · refine ⟨fun _ => ?_, fun (q : ¬ (-1 : Int32) < 0) => absurd (by decide) q⟩
            have e : jc τ s w code = none := by unfold jc; rw [hv]; rfl
            refine nxt M4 fr4 h284 ?_ _
            have e2 : List.filterMap (jc τ s w) [code] = [] := by simp [e]
            rw [e2]; exact hL4
          · refine ⟨fun (q : nI _ < 0) => absurd q (nI_pos (by omega)), fun _ => ?_⟩
            refine ⟨b + i, by show b + i < 8; omega, rfl, am_cc (by omega) ?_⟩
            have e : jc τ s w code = some (wd_c w + x + jn_cnt (fun k => decide (wd_t w k 8 = 0)) tak (wd_n w) * ta_ru τ 1, dgs n code) := by unfold jc; rw [hv, hnn]; rfl
            generalize hcc : jn_cnt (fun k => decide (wd_t w k 8 = 0)) tak (wd_n w) * ta_ru τ 1 = cc at e hx
            refine (fun (z : X (d - 1) 100 0 [some (.inr (.inl (28, 0))), some (.inl (M4.1 43 0 (b + i) + nI (x + cc))), some (.inl (nI (b + i))), some (.inl (nI code)), none] [] M4 _) => z) ?_
            rw [hW4.1, nI_add, ← Nat.add_assoc]
            have hcw := hokw.2.1
            have hcw2 : 1600000 * m ≤ 1600000 * 12 := Nat.mul_le_mul_left _ (by omega)
            refine cm_offer hX _ _ K hK5 ((hT4.2.2.2.2 5 (by omega)).trans (by rw [hKK])) b n _ hL4 (wd_c w + x + cc) i code (by omega) hcl _ (fun M5 fr5 h285 hL5 => ?_)
            refine nxt M5 (am_fr_tr fr4 fr5) (fun k hk => (h285 k hk).trans (h284 k hk)) ?_ _
            have e2 : List.filterMap (jc τ s w) [code] = [(wd_c w + x + cc, dgs n code)] := by simp [e]
            rw [e2]; exact hL5
      exact codes N 0 (by omega) M3 (am_fr_rf _ _) (fun _ _ => rfl) hL3 _
  refine am_go hX [14] 40 ?_
  refine ⟨s, by show s < 12; omega, rfl, ?_⟩
  refine (fun (z : X d 106 14 [some (.inr (.inl (28, 0))), some (.inl (nI s)), some (.inl ((1 : Int32) <<< (3 * M.1 33 0 s &&& 31))), some (.inl (nI 0)), none, none, none] [] (am_si M 28 0 33 0) Q) => z) ?_
  rw [a3, mk_shl8 n (by omega), hN]
  refine deal ws.length 0 (by omega) _ (am_fr_si (am_fr_rf _ M) (by simp)) (fun k hk => by rw [am_si_at, if_neg (fun z => hk z.2.2)]) ⟨by rw [am_si_at, if_pos ⟨rfl, rfl, rfl⟩]; rfl, Nat.zero_le _, fun i j _ hj => by simp at hj, fun i hi => by simp at hi⟩ _ _ _
