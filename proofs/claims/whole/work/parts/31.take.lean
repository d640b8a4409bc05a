/-! the class takes a scan in -/
def rc_K (M : am_M) (τ : ta) (P : Nat → Prop) (m : Nat) (ws : List wd) : Prop :=
  M.1 8 0 1 = nI ws.length ∧ ws.length ≤ 4 ∧ M.2.1 8 0 < 2 ∧ M.2.1 8 2 = 1 - M.2.1 8 0 ∧ ∀ i, i < ws.length → rc_W M τ P (4 * M.2.1 8 0 + i) (am_nth ws i wd_0) ∧ wd_ok m (am_nth ws i wd_0)
def rc_G (M : am_M) (τ : ta) : Prop :=
  M.1 10 0 1 = nI (ta_ru τ 1) ∧ M.1 10 0 2 = nI (ta_ru τ 2) ∧ M.1 10 0 3 = nI (ta_ru τ 3) ∧ M.2.2.toInt = (ta_ru τ 0 * ta_ru τ 0 : Nat)
/-- what stays of the scratch cells -/
def rc_S (M : am_M) : Prop := (∀ k, k < 6 → M.1 16 0 k = 0) ∧ (∀ i, i < 4 → M.2.1 12 i < 4) ∧ ∀ i j, i < 4 → j < 4 → M.2.1 12 i = M.2.1 12 j → i = j
theorem jn_best_ok {τ : ta} (hτ : ta_ok τ) {s m : Nat} (hs : s < ta_n τ) {ws : List wd} (hw : ∀ i, i < ws.length → wd_ok m (am_nth ws i wd_0)) : (jn_best τ s ws).length ≤ ta_ru τ 5 ∧ (1 ≤ ws.length → 1 ≤ (jn_best τ s ws).length) ∧ ∀ x ∈ jn_best τ s ws, x.2.1 < ws.length ∧ jp_ok (wd_n (am_nth ws x.2.1 wd_0)) (ta_dn τ s) x.2.2 ∧ jp_di (ta_dn τ s) x.2.2 ∧ x.1 ≤ 1600000 * (m + 1) := by
  have hK := hτ.2.2.2.2.2.2.2.2.2
  have hl := jn_fold_len (K := ta_ru τ 5) hK.1 (xs := jn_of τ s ws) (l := []) (Nat.zero_le _)
  refine ⟨hl.1, fun h1 => hl.2 (Or.inr ?_), fun x hx => ?_⟩
  · intro q
    unfold jn_of at q
    rw [List.flatMap_eq_nil_iff] at q
    have := q 0 (List.mem_range.mpr h1)
    rw [List.map_eq_nil_iff] at this
    exact jn_sub_ne _ _ _ _ _ _ _ _ _ _ _ _ this
  · rcases jn_fold_mem hx with h | h
    · unfold jn_of at h
      obtain ⟨i, hi, h⟩ := List.mem_flatMap.mp h
      obtain ⟨c, hc, rfl⟩ := List.mem_map.mp h
      have hi := List.mem_range.mp hi
      exact ⟨hi, jn_all_ok hτ hs (hw i hi) c hc⟩
    · simp at h
theorem wd_step_ok {τ : ta} (hτ : ta_ok τ) {s m : Nat} (hs : s < ta_n τ) {ws : List wd} (hw : ∀ i, i < ws.length → wd_ok m (am_nth ws i wd_0)) : (wd_step τ s ws).length = (jn_best τ s ws).length ∧ ∀ i, i < (jn_best τ s ws).length → am_nth (wd_step τ s ws) i wd_0 = wd_ap τ s (am_nth ws (am_nth (jn_best τ s ws) i jn_0).2.1 wd_0) (am_nth (jn_best τ s ws) i jn_0).1 (am_nth (jn_best τ s ws) i jn_0).2.2 ∧ wd_ok (m + 1) (am_nth (wd_step τ s ws) i wd_0) := by
  have hb := jn_best_ok hτ hs hw
  refine ⟨by unfold wd_step; rw [List.length_map], fun i hi => ?_⟩
  have e : am_nth (wd_step τ s ws) i wd_0 = wd_ap τ s (am_nth ws (am_nth (jn_best τ s ws) i jn_0).2.1 wd_0) (am_nth (jn_best τ s ws) i jn_0).1 (am_nth (jn_best τ s ws) i jn_0).2.2 := by
    have key : ∀ (l : List jn) (f : jn → wd) (i : Nat), i < l.length → am_nth (l.map f) i wd_0 = f (am_nth l i jn_0) := by
      intro l f
      induction l with
      | nil => intro i h; simp at h
      | cons a l ih => intro i h; cases i with
        | zero => rfl
        | succ i => exact ih i (by simpa using h)
    exact key _ _ i hi
  refine ⟨e, ?_⟩
  obtain ⟨h1, h2, h3, h4⟩ := hb.2.2 _ (am_nth_in (d := jn_0) hi)
  rw [e]
  exact wd_ap_ok hτ hs (hw _ h1) h2 h4
set_option maxHeartbeats 1000000 in
theorem cw_takeIn {X : am_X} (hX : am_Cl X) (d : Nat) (M : am_M) (hd : 8 ≤ d) (τ : ta) (hτ : ta_ok τ) (hT : rc_T M τ) (s : Nat) (hs : s < ta_n τ) (P : Nat → Prop) (hP : ∀ s, P s → s < ta_n τ) (m : Nat) (hm : m < 12) (ws : List wd) (hK : rc_K M τ P m ws) (hG : rc_G M τ) (hS : rc_S M) (Q : am_P)
    (h : ∀ M', am_fg [8, 10, 11, 13, 14, 15, 16, 22, 23, 24, 26, 27] [8, 12] M M' → rc_K M' τ (fun s' => s' = s ∨ P s') (m + 1) (wd_step τ s ws) → rc_G M' τ → rc_S M' → Q none M') : X d 43 0 [some (.inr (.inl (8, 0))), some (.inr (.inl (1, 0))), some (.inl (nI s)), none, none, none] [] M Q := by
  obtain ⟨q1, q2, q3, q4, q5⟩ := id hK
  obtain ⟨r1, r2, r3, r4, r5, r6, r7⟩ := id hT
  have hK5 := hτ.2.2.2.2.2.2.2.2.2
  have hn12 := hτ.1
  have hb := jn_best_ok hτ hs (fun i hi => (q5 i hi).2)
  have hst := wd_step_ok hτ hs (fun i hi => (q5 i hi).2)
  have h4 := (hτ.2.2.1 s hs).2.2.1
  refine am_go hX [12] 40 ?_
  refine ⟨5, by show 5 < 6; omega, rfl, am_cc (by omega) ?_⟩
  refine (fun (z : X (d - 1) 55 0 [some (.inr (.inl (11, 0))), some (.inl (M.1 6 0 5))] [] M _) => z) ?_
  rw [r7 5 (by omega)]
  refine cw_open hX _ _ (by omega) (ta_ru τ 5) hK5 _ ?_
  generalize hM1 : am_si (am_si M 11 0 0 0) 11 0 1 (nI (ta_ru τ 5)) = M1
  have fr1 : am_fg [11] [] M M1 := by rw [← hM1]; exact am_fg_si (am_fg_si (am_fg_rf _ _ _) (by simp)) (by simp)
  have hL1 : cs_L M1 (ta_ru τ 5) (ta_dn τ s) [] := by
    refine ⟨by rw [← hM1, am_si_at, if_neg (by omega), am_si_at, if_pos ⟨rfl, rfl, rfl⟩]; rfl, by rw [← hM1, am_si_at, if_pos ⟨rfl, rfl, rfl⟩], Nat.zero_le _, hK5.1, hK5.2, fun i j _ hj => by simp at hj, fun i hi => ?_, fun i j hi hj q => ?_, fun i hi => by simp at hi⟩
    · rw [fr1.2.1 12 i (by simp)]; exact hS.2.1 i hi
    · rw [fr1.2.1 12 i (by simp), fr1.2.1 12 j (by simp)] at q; exact hS.2.2 i j hi hj q
  refine (fun (z : X d 43 12 [some (.inr (.inl (8, 0))), some (.inr (.inl (1, 0))), some (.inl (nI s)), some (.inr (.inl (11, 0))), some (.inl (nI 0)), none] [] M1 Q) => z) ?_
  generalize hf : (fun i => (jn_all τ s (am_nth ws i wd_0)).map fun c => ((c.1, i, c.2) : jn)) = f
  have hbest : jn_best τ s ws = ((List.range ws.length).flatMap f).foldl (jn_off (ta_ru τ 5)) [] := by rw [← hf]; rfl
  -- the end: swap
  have fin : ∀ (M2 : am_M), am_fg [10, 11, 13, 14, 15, 16, 22, 23, 24, 26, 27] [12] M M2 → rc_G M2 τ → rc_S M2 → M2.1 11 0 0 = nI (jn_best τ s ws).length → (∀ i, i < (jn_best τ s ws).length → rc_W M2 τ (fun s' => s' = s ∨ P s') (4 * M.2.1 8 2 + i) (am_nth (wd_step τ s ws) i wd_0)) → ∀ z4 z5, X d 43 59 [some (.inr (.inl (8, 0))), some (.inr (.inl (1, 0))), some (.inl (nI s)), some (.inr (.inl (11, 0))), z4, z5] [] M2 Q := by
    intro M2 fr2 hG2 hS2 hlen hw2 z4 z5
    refine am_go hX [] 40 ?_
    have v0 : M2.2.1 8 0 = M.2.1 8 0 := fr2.2.1 8 0 (by simp)
    have v2 : M2.2.1 8 2 = M.2.1 8 2 := fr2.2.1 8 2 (by simp)
    refine (fun (z : Q none (am_si (am_sv (am_sv M2 8 0 (M2.2.1 8 2)) 8 2 (M2.2.1 8 0)) 8 0 1 (M2.1 11 0 0))) => z) ?_
    have fr3 : am_fg [8] [8] M2 (am_si (am_sv (am_sv M2 8 0 (M2.2.1 8 2)) 8 2 (M2.2.1 8 0)) 8 0 1 (M2.1 11 0 0)) := by
      refine ⟨rfl, fun f k hf => ?_, fun f i k hf => ?_⟩
      · have h8 : f ≠ 8 := fun z => hf (by rw [z]; simp)
        show (am_sv (am_sv M2 8 0 (M2.2.1 8 2)) 8 2 (M2.2.1 8 0)).2.1 f k = _
        rw [am_sv_at', if_neg (fun q => h8 q.1), am_sv_at', if_neg (fun q => h8 q.1)]
      · have h8 : f ≠ 8 := fun z => hf (by rw [z]; simp)
        rw [am_si_at, if_neg (fun q => h8 q.1)]; rfl
    have w0 : (am_si (am_sv (am_sv M2 8 0 (M2.2.1 8 2)) 8 2 (M2.2.1 8 0)) 8 0 1 (M2.1 11 0 0)).2.1 8 0 = M.2.1 8 2 := by
      show (am_sv (am_sv M2 8 0 (M2.2.1 8 2)) 8 2 (M2.2.1 8 0)).2.1 8 0 = _
      rw [am_sv_at', if_neg (by omega), am_sv_at', if_pos ⟨rfl, rfl⟩, v2]
    have w2 : (am_si (am_sv (am_sv M2 8 0 (M2.2.1 8 2)) 8 2 (M2.2.1 8 0)) 8 0 1 (M2.1 11 0 0)).2.1 8 2 = M.2.1 8 0 := by
      show (am_sv (am_sv M2 8 0 (M2.2.1 8 2)) 8 2 (M2.2.1 8 0)).2.1 8 2 = _
      rw [am_sv_at', if_pos ⟨rfl, rfl⟩, v0]
    refine h _ (am_fg_tr (am_fg_mono fr2 (by simp) (by simp)) (am_fg_mono fr3 (by simp) (by simp))) ⟨?_, ?_, ?_, ?_, fun i hi => ?_⟩ ?_ ?_
    · rw [am_si_at, if_pos ⟨rfl, rfl, rfl⟩, hlen, hst.1]
    · rw [hst.1]; have := hb.1; omega
    · rw [w0, q4]; omega
    · rw [w0, w2, q4]; omega
    · rw [hst.1] at hi
      rw [w0]
      exact ⟨rc_W_fr (hw2 i hi) fr3 (by simp), (hst.2 i hi).2⟩
    · exact ⟨(fr3.2.2 10 0 1 (by simp)).trans hG2.1, (fr3.2.2 10 0 2 (by simp)).trans hG2.2.1, (fr3.2.2 10 0 3 (by simp)).trans hG2.2.2.1, by rw [fr3.1]; exact hG2.2.2.2⟩
    · exact ⟨fun k hk => (fr3.2.2 16 0 k (by simp)).trans (hS2.1 k hk), fun i hi => by rw [fr3.2.1 12 i (by simp)]; exact hS2.2.1 i hi, fun i j hi hj q => by rw [fr3.2.1 12 i (by simp), fr3.2.1 12 j (by simp)] at q; exact hS2.2.2 i j hi hj q⟩
  -- second loop: carrying out
  have carry : ∀ r i : Nat, i + r = (jn_best τ s ws).length → ∀ M2 : am_M, am_fg [10, 11, 13, 14, 15, 16, 22, 23, 24, 26, 27] [12] M M2 → rc_G M2 τ → rc_S M2 → cs_L M2 (ta_ru τ 5) (ta_dn τ s) (jn_best τ s ws) → (∀ p, p < ws.length → rc_W M2 τ P (4 * M.2.1 8 0 + p) (am_nth ws p wd_0)) → (∀ i', i' < i → rc_W M2 τ (fun s' => s' = s ∨ P s') (4 * M.2.1 8 2 + i') (am_nth (wd_step τ s ws) i' wd_0)) → ∀ z5, X d 43 30 [some (.inr (.inl (8, 0))), some (.inr (.inl (1, 0))), some (.inl (nI s)), some (.inr (.inl (11, 0))), some (.inl (nI i)), z5] [] M2 Q := by
    intro r
    induction r with
    | zero =>
      intro i hi M2 fr2 hG2 hS2 hL2 hkept hdone z5
      have hi : i = (jn_best τ s ws).length := by omega
      subst hi
      refine am_go hX [30, 59] 40 ?_
      refine ⟨fun _ => fin M2 fr2 hG2 hS2 hL2.1 hdone _ _, fun (q : ¬ M2.1 11 0 0 ≤ nI (jn_best τ s ws).length) => absurd (by rw [hL2.1]; exact nI_le (Nat.le_refl _) (by have := hb.1; omega)) q⟩
    | succ r ih =>
      intro i hi M2 fr2 hG2 hS2 hL2 hkept hdone z5
      have hbl := hb.1
      have hil : i < (jn_best τ s ws).length := by omega
      obtain ⟨c1, c2, c3, c4⟩ := hL2.2.2.2.2.2.2.2.2 i hil
      obtain ⟨x1, x2, x3, x4⟩ := hb.2.2 _ (am_nth_in (d := jn_0) hil)
      generalize hx : am_nth (jn_best τ s ws) i jn_0 = x at c1 c2 c3 c4 x1 x2 x3 x4
      have v0 : M2.2.1 8 0 = M.2.1 8 0 := fr2.2.1 8 0 (by simp)
      have v2 : M2.2.1 8 2 = M.2.1 8 2 := fr2.2.1 8 2 (by simp)
      have hv2 : M.2.1 8 2 < 2 := by rw [q4]; omega
      have hne : 4 * M.2.1 8 0 + x.2.1 ≠ 4 * M.2.1 8 2 + i := by rw [q4]; omega
      refine am_go hX [30] 60 ?_
      refine ⟨fun (q : M2.1 11 0 0 ≤ nI i) => absurd q (by rw [hL2.1]; exact nI_ge hil (by omega)), fun _ => ?_⟩
      refine ⟨i, by show i < 4; omega, rfl, i, by show i < 4; omega, rfl, x.2.1, by show x.2.1 < 4; omega, c2, am_cc (by omega) ?_⟩
      refine (fun (z : X (d - 1) 65 0 [some (.inr (.inl (24, 4 * M2.2.1 8 2 + i))), some (.inr (.inl (24, 4 * M2.2.1 8 0 + x.2.1))), none] [] M2 _) => z) ?_
      rw [v2, v0]
      refine cw_wcopy hX _ _ (by omega) τ P (fun s' hs' => ⟨by have := hP s' hs'; omega, (hτ.2.2.1 s' (hP s' hs')).2.2.1⟩) (4 * M.2.1 8 0 + x.2.1) (4 * M.2.1 8 2 + i) hne _ (hkept x.2.1 x1) m (q5 x.2.1 x1).2 _ (fun M3 ho3 hW3 => ?_)
      have fr3 : am_fg [24, 26, 27] [] M2 M3 := am_fg_of ho3.1 []
      have frA : am_fg [10, 11, 13, 14, 15, 16, 22, 23, 24, 26, 27] [12] M M3 := am_fg_tr fr2 (am_fg_mono fr3 (by simp) (by simp))
      have hL3 := cs_L_fr hL2 fr3 (by simp) (by simp) (by simp) (by simp)
      have hT3 : rc_T M3 τ := rc_T_fr hT frA (by simp) (by simp)
      have j12 : M3.2.1 12 i = M2.2.1 12 i := fr3.2.1 12 i (by simp)
      refine ⟨i, by show i < 4; omega, rfl, am_cc (by omega) ?_⟩
      refine (fun (z : X (d - 1) 71 0 [some (.inr (.inl (24, 4 * M3.2.1 8 2 + i))), some (.inr (.inl (22, M2.2.1 12 i))), some (.inr (.inl (1, 0))), some (.inl (nI s)), none, none, none, none, none] [] M3 _) => z) ?_
      rw [fr3.2.1 8 2 (by simp), v2]
      refine cw_apply hX _ _ (by omega) τ hτ hT3 s (4 * M.2.1 8 2 + i) (M2.2.1 12 i) hs (by omega) P hP _ hW3 x.1 x.2.2 ((fr3.2.2 22 _ 1 (by simp)).trans c1) (fun e he => (fr3.2.2 23 _ e (by simp)).trans (c4 e he)) x2 _ (fun M4 ho4 hW4 => ?_)
      have fr4 : am_fg [24, 26, 27] [] M3 M4 := am_fg_of ho4.1 []
      have ho : ck_only (4 * M.2.1 8 2 + i) M2 M4 := ck_only_tr ho3 ho4
      have keepW : ∀ (p : Nat) (P' : Nat → Prop) (w : wd), p ≠ 4 * M.2.1 8 2 + i → wd_n w ≤ 6 → rc_W M2 τ P' p w → rc_W M4 τ P' p w := by
        intro p P' w hp hw6 hr
        obtain ⟨g1, g2, g3, g4⟩ := hr
        exact ⟨(ho.2.1 p 0 hp).trans g1, (ho.2.1 p 1 hp).trans g2, fun k hk j hj => (ho.2.2.2 _ j (by omega)).trans (g3 k hk j hj), fun s' e hs' he => (ho.2.2.1 p _ hp).trans (g4 s' e hs' he)⟩
      refine (fun (z : X d 43 30 [some (.inr (.inl (8, 0))), some (.inr (.inl (1, 0))), some (.inl (nI s)), some (.inr (.inl (11, 0))), some (.inl (nI i + 1)), some (.inr (.inl (22, M2.2.1 12 i)))] [] M4 Q) => z) ?_
      rw [nI_1]
      refine ih (i + 1) (by omega) M4 (am_fg_tr frA (am_fg_mono fr4 (by simp) (by simp))) ?_ ?_ (cs_L_fr hL3 fr4 (by simp) (by simp) (by simp) (by simp)) (fun p hp => ?_) (fun i' hi' => ?_) _
      · have f34 : am_fg [24, 26, 27] [] M2 M4 := am_fg_tr fr3 fr4
        exact ⟨(f34.2.2 10 0 1 (by simp)).trans hG2.1, (f34.2.2 10 0 2 (by simp)).trans hG2.2.1, (f34.2.2 10 0 3 (by simp)).trans hG2.2.2.1, by rw [f34.1]; exact hG2.2.2.2⟩
      · have f34 : am_fg [24, 26, 27] [] M2 M4 := am_fg_tr fr3 fr4
        exact ⟨fun k hk => (f34.2.2 16 0 k (by simp)).trans (hS2.1 k hk), fun i hi => by rw [f34.2.1 12 i (by simp)]; exact hS2.2.1 i hi, fun i j hi hj q => by rw [f34.2.1 12 i (by simp), f34.2.1 12 j (by simp)] at q; exact hS2.2.2 i j hi hj q⟩
      · exact keepW _ _ _ (by rw [q4]; omega) (q5 p hp).2.1 (hkept p hp)
      · by_cases z : i' = i
        · subst z
          rw [(hst.2 i' hil).1, hx]; exact hW4
        · exact keepW _ _ _ (by omega) (hst.2 i' (by omega)).2.1 (hdone i' (by omega))
  -- first loop: dealing
  have deal : ∀ r i : Nat, i + r = ws.length → ∀ M2 : am_M, am_fg [10, 11, 13, 14, 15, 16, 22, 23] [12] M M2 → rc_G M2 τ → (∀ k, k < 6 → M2.1 16 0 k = 0) → cs_L M2 (ta_ru τ 5) (ta_dn τ s) (((List.range i).flatMap f).foldl (jn_off (ta_ru τ 5)) []) → X d 43 12 [some (.inr (.inl (8, 0))), some (.inr (.inl (1, 0))), some (.inl (nI s)), some (.inr (.inl (11, 0))), some (.inl (nI i)), none] [] M2 Q := by
    intro r
    induction r with
    | zero =>
      intro i hi M2 fr2 hG2 htk hL2
      have hi : i = ws.length := by omega
      subst hi
      rw [← hbest] at hL2
      have e8 : M2.1 8 0 1 = nI ws.length := (fr2.2.2 8 0 1 (by simp)).trans q1
      refine am_go hX [12, 30] 40 ?_
      refine ⟨fun _ => ?_, fun (q : ¬ M2.1 8 0 1 ≤ nI ws.length) => absurd (by rw [e8]; exact nI_le (Nat.le_refl _) (by omega)) q⟩
      exact carry (jn_best τ s ws).length 0 (by omega) M2 (am_fg_mono fr2 (by simp) (by simp)) hG2 ⟨htk, hL2.2.2.2.2.2.2.1, hL2.2.2.2.2.2.2.2.1⟩ hL2 (fun p hp => rc_W_fr (q5 p hp).1 fr2 (by simp)) (fun i' hi' => by omega) _
    | succ r ih =>
      intro i hi M2 fr2 hG2 htk hL2
      have hil : i < ws.length := by omega
      have e8 : M2.1 8 0 1 = nI ws.length := (fr2.2.2 8 0 1 (by simp)).trans q1
      have v0 : M2.2.1 8 0 = M.2.1 8 0 := fr2.2.1 8 0 (by simp)
      refine am_go hX [12] 40 ?_
      refine ⟨fun (q : M2.1 8 0 1 ≤ nI i) => absurd q (by rw [e8]; exact nI_ge hil (by omega)), fun _ => ?_⟩
      refine ⟨i, by show i < 4; omega, rfl, am_cc (by omega) ?_⟩
      refine (fun (z : X (d - 1) 49 0 [some (.inr (.inl (10, 0))), some (.inl (nI i)), some (.inr (.inl (24, 4 * M2.2.1 8 0 + i))), some (.inr (.inl (1, 0))), some (.inl (nI s))] [] M2 _) => z) ?_
      rw [v0]
      refine cw_deal hX _ _ (by omega) τ hτ (rc_T_fr hT fr2 (by simp) (by simp)) s (4 * M.2.1 8 0 + i) i hs (by omega) P _ (rc_W_fr (q5 i hil).1 fr2 (by simp)) m (by omega) (q5 i hil).2 (ta_ru τ 5) _ hL2 hG2.1 hG2.2.1 hG2.2.2.1 hG2.2.2.2 htk _ (fun M3 fr3 g1 g2 g3 ht3 hL3 => ?_)
      refine (fun (z : X d 43 12 [some (.inr (.inl (8, 0))), some (.inr (.inl (1, 0))), some (.inl (nI s)), some (.inr (.inl (11, 0))), some (.inl (nI i + 1)), none] [] M3 Q) => z) ?_
      rw [nI_1]
      refine ih (i + 1) (by omega) M3 (am_fg_tr fr2 fr3) ⟨g1, g2, g3, by rw [fr3.1]; exact hG2.2.2.2⟩ ht3 ?_
      rw [List.range_succ, List.flatMap_append, List.foldl_append]
      have e : ([i] : List Nat).flatMap f = (jn_all τ s (am_nth ws i wd_0)).map (jn_J i) := by rw [← hf, List.flatMap_cons, List.flatMap_nil, List.append_nil]; rfl
      rw [e]; exact hL3
  refine deal ws.length 0 (by omega) M1 (am_fg_mono fr1 (by simp) (by simp)) ?_ (fun k hk => (fr1.2.2 16 0 k (by simp)).trans (hS.1 k hk)) hL1
  exact ⟨(fr1.2.2 10 0 1 (by simp)).trans hG.1, (fr1.2.2 10 0 2 (by simp)).trans hG.2.1, (fr1.2.2 10 0 3 (by simp)).trans hG.2.2.1, by rw [fr1.1]; exact hG.2.2.2⟩
