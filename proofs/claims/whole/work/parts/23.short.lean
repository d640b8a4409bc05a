/-! the class's shortlist -/
/-- memories that differ in some families of ints, and of places, alone -/
def am_fg (L LV : List Nat) (M M' : am_M) : Prop := M'.2.2 = M.2.2 ∧ (∀ f k, f ∉ LV → M'.2.1 f k = M.2.1 f k) ∧ ∀ f i k, f ∉ L → M'.1 f i k = M.1 f i k
theorem am_fg_rf (L LV : List Nat) (M : am_M) : am_fg L LV M M := ⟨rfl, fun _ _ _ => rfl, fun _ _ _ _ => rfl⟩
theorem am_fg_si {L LV : List Nat} {M M' : am_M} {f i k : Nat} {x : Int32} (h : am_fg L LV M M') (hf : f ∈ L) : am_fg L LV M (am_si M' f i k x) := by
  refine ⟨h.1, h.2.1, fun f' i' k' hn => ?_⟩
  show (if f' = f ∧ i' = i ∧ k' = k then x else M'.1 f' i' k') = _
  rw [if_neg (fun q => hn (by rw [q.1]; exact hf))]
  exact h.2.2 f' i' k' hn
theorem am_fg_tr {L LV : List Nat} {M M' M'' : am_M} (h : am_fg L LV M M') (h' : am_fg L LV M' M'') : am_fg L LV M M'' := ⟨h'.1.trans h.1, fun f k hn => (h'.2.1 f k hn).trans (h.2.1 f k hn), fun f i k hn => (h'.2.2 f i k hn).trans (h.2.2 f i k hn)⟩
theorem am_fg_mono {L LV L' LV' : List Nat} {M M' : am_M} (h : am_fg L LV M M') (hs : ∀ f ∈ L, f ∈ L') (hv : ∀ f ∈ LV, f ∈ LV') : am_fg L' LV' M M' := ⟨h.1, fun f k hn => h.2.1 f k (fun q => hn (hv f q)), fun f i k hn => h.2.2 f i k (fun q => hn (hs f q))⟩
theorem am_fg_of {L : List Nat} {M M' : am_M} (h : am_fr L M M') (LV : List Nat) : am_fg L LV M M' := ⟨by rw [h.1], fun f k _ => by rw [h.1], h.2⟩
def cs_L (M : am_M) (K n : Nat) (l : List jn) : Prop :=
  M.1 11 0 0 = nI l.length ∧ M.1 11 0 1 = nI K ∧ l.length ≤ K ∧ 1 ≤ K ∧ K ≤ 4 ∧ jn_srt l ∧ (∀ i, i < 4 → M.2.1 12 i < 4) ∧ (∀ i j, i < 4 → j < 4 → M.2.1 12 i = M.2.1 12 j → i = j) ∧
  ∀ i, i < l.length → M.1 22 (M.2.1 12 i) 1 = nI (am_nth l i jn_0).1 ∧ M.1 22 (M.2.1 12 i) 0 = nI (am_nth l i jn_0).2.1 ∧ (am_nth l i jn_0).1 < 2 ^ 30 ∧ ∀ e, e < n → M.1 23 (M.2.1 12 i) e = nI (am_nth (am_nth l i jn_0).2.2 e 9)
theorem cw_takes {X : am_X} (hX : am_Cl X) (d : Nat) (M : am_M) (K n : Nat) (l : List jn) (hL : cs_L M K n l) (c : Nat) (hc : c < 2 ^ 30) (Q : am_P) (h1 : (l.length < K ∨ c < (am_nth l (K - 1) jn_0).1) → Q (some (.inl (1))) M) (h0 : l.length = K → (am_nth l (K - 1) jn_0).1 ≤ c → Q (some (.inl (0))) M) : X d 56 0 [some (.inr (.inl (11, 0))), some (.inl (nI c))] [] M Q := by
  obtain ⟨e0, e1, hl, hK1, hK4, hs, hv, hvi, hel⟩ := hL
  refine am_go hX [] 30 ?_
  refine ⟨fun (q : M.1 11 0 0 < M.1 11 0 1) => ⟨Or.inr rfl, h1 (Or.inl ?_)⟩, fun (q : ¬ M.1 11 0 0 < M.1 11 0 1) => ?_⟩
  · rw [e0, e1] at q; exact (nI_ltI (by omega) (by omega)).mp q
  · have hl' : l.length = K := by
      rw [e0, e1] at q
      rcases Nat.lt_or_ge l.length K with z | z
      · exact absurd (nI_lt z (by omega)) q
      · omega
    obtain ⟨g1, -, g3, -⟩ := hel (K - 1) (by omega)
    have ei : M.1 11 0 0 - 1 = nI (K - 1) := by
      rw [e0, hl']
      obtain ⟨t, rfl⟩ : ∃ t, K = t + 1 := ⟨K - 1, by omega⟩
      exact nI_pred t
    refine ⟨K - 1, by show K - 1 < 4; omega, ei, fun (q2 : M.1 22 (M.2.1 12 (K - 1)) 1 ≤ nI c) => ⟨Or.inl rfl, h0 hl' ?_⟩, fun (q2 : ¬ M.1 22 (M.2.1 12 (K - 1)) 1 ≤ nI c) => ⟨Or.inr rfl, h1 (Or.inr ?_)⟩⟩
    · rw [g1] at q2; exact (nI_leI (by omega) (by omega)).mp q2
    · rw [g1] at q2
      rcases Nat.lt_or_ge c (am_nth l (K - 1) jn_0).1 with z | z
      · exact z
      · exact absurd (nI_le z (by omega)) q2
theorem cw_open {X : am_X} (hX : am_Cl X) (d : Nat) (M : am_M) (hd : 1 ≤ d) (K : Nat) (hK : 1 ≤ K ∧ K ≤ 4) (Q : am_P) (h : Q none (am_si (am_si M 11 0 0 0) 11 0 1 (nI K))) : X d 55 0 [some (.inr (.inl (11, 0))), some (.inl (nI K))] [] M Q := by
  refine am_go hX [] 30 ?_
  have e1 : (if nI K < 4 then nI K else 4) = nI K := by
    by_cases z : K < 4
    · rw [if_pos (show nI K < 4 from nI_lt (b := 4) z (by decide))]
    · have : K = 4 := by omega
      subst this; rfl
  have e2 : (if 1 < nI K then nI K else 1) = nI K := by
    by_cases z : 1 < K
    · rw [if_pos (show 1 < nI K from nI_lt (a := 1) z (by omega))]
    · have : K = 1 := by omega
      subst this; rfl
  refine am_cc hd (lb_min hX _ _ _ _ _ ?_)
  rw [e1]
  refine am_cc hd (lb_max hX _ _ _ _ _ ?_)
  rw [e2]
  exact h
/-- the shortlist behind an offer, out of what its cells hold -/
theorem cs_fin {M M' : am_M} {K n st a p c : Nat} {ps : List Nat} {l : List jn} (hL : cs_L M K n l) (hn : n ≤ 4) (hc : c < 2 ^ 30) (hp : ∀ e, e < n → M.1 15 0 e = nI (am_nth ps e 9)) (hst1 : l.length < K → st = l.length) (hst2 : ¬ l.length < K → st = K - 1)
    (ha : a ≤ st) (h1 : ∀ i, i < a → (am_nth l i jn_0).1 ≤ c) (h2 : a < l.length → c < (am_nth l a jn_0).1)
    (g0 : M'.1 11 0 0 = if l.length < K then nI (l.length + 1) else nI K) (g1 : M'.1 11 0 1 = nI K) (gv : ∀ i, M'.2.1 12 i = if i = a then M.2.1 12 st else if a < i ∧ i ≤ st then M.2.1 12 (i - 1) else M.2.1 12 i)
    (g22 : ∀ q k, M'.1 22 q k = if q = M.2.1 12 st ∧ k = 1 then nI c else if q = M.2.1 12 st ∧ k = 0 then nI p else M.1 22 q k)
    (g23 : ∀ q e, e < 4 → M'.1 23 q e = if q = M.2.1 12 st then M.1 15 0 e else M.1 23 q e) : cs_L M' K n (jn_off K l (c, p, ps)) := by
  obtain ⟨e0, e1, hl, hK1, hK4, hs, hv, hvi, hel⟩ := hL
  have hstl : st ≤ l.length ∧ st < K := by
    by_cases z : l.length < K
    · have := hst1 z; omega
    · have := hst2 z; omega
  obtain ⟨hl1, he⟩ := jn_off_at (K := K) (l := l) (x := (c, p, ps)) (a := a) (by omega) h1 h2 (by omega) hl
  refine ⟨?_, g1, by rw [hl1]; split <;> omega, hK1, hK4, jn_off_srt hs (by omega) h1 h2 (by omega) hl, fun i hi => ?_, fun i j hi hj q => ?_, fun i hi => ?_⟩
  · rw [g0, hl1]; split <;> rfl
  · rw [gv]; split
    · exact hv st (by omega)
    · split
      · exact hv _ (by omega)
      · exact hv i hi
  · rw [gv i, gv j] at q
    repeat' split at q
    all_goals first
      | omega
      | (have := hvi _ _ (by omega) (by omega) q; omega)
  · have hi' : i ≤ st := by
      rw [hl1] at hi
      by_cases z : l.length < K
      · rw [if_pos z] at hi; have := hst1 z; omega
      · rw [if_neg z] at hi; have := hst2 z; omega
    rw [he i hi, gv i]
    by_cases hia : i < a
    · have hne : M.2.1 12 i ≠ M.2.1 12 st := fun q => by have := hvi i st (by omega) (by omega) q; omega
      rw [if_pos hia, if_neg (by omega), if_neg (by omega), g22, g22, if_neg (fun q => hne q.1), if_neg (fun q => hne q.1), if_neg (fun q => hne q.1), if_neg (fun q => hne q.1)]
      obtain ⟨w1, w2, w3, w4⟩ := hel i (by omega)
      refine ⟨w1, w2, w3, fun e hen => ?_⟩
      rw [g23 _ e (by omega), if_neg hne]; exact w4 e hen
    · rw [if_neg hia]
      by_cases hie : i = a
      · subst hie
        rw [if_pos rfl, if_pos rfl, g22, g22, if_pos ⟨rfl, rfl⟩, if_neg (by omega), if_pos ⟨rfl, rfl⟩]
        refine ⟨rfl, rfl, hc, fun e hen => ?_⟩
        rw [g23 _ e (by omega), if_pos rfl]; exact hp e hen
      · have hne : M.2.1 12 (i - 1) ≠ M.2.1 12 st := fun q => by have := hvi (i - 1) st (by omega) (by omega) q; omega
        rw [if_neg hie, if_neg hie, if_pos ⟨by omega, hi'⟩, g22, g22, if_neg (fun q => hne q.1), if_neg (fun q => hne q.1), if_neg (fun q => hne q.1), if_neg (fun q => hne q.1)]
        obtain ⟨w1, w2, w3, w4⟩ := hel (i - 1) (by omega)
        refine ⟨w1, w2, w3, fun e hen => ?_⟩
        rw [g23 _ e (by omega), if_neg hne]; exact w4 e hen
theorem am_sv_at' {M : am_M} {f n j f' k : Nat} : (am_sv M f n j).2.1 f' k = if f' = f ∧ k = n then j else M.2.1 f' k := rfl
theorem am_sr_at {M : am_M} {f i f' i' k : Nat} {r : Nat → Int32} : (am_sr M f i r).1 f' i' k = if f' = f ∧ i' = i then r k else M.1 f' i' k := rfl
set_option maxHeartbeats 1000000 in
theorem cw_offer {X : am_X} (hX : am_Cl X) (d : Nat) (M : am_M) (hd : 1 ≤ d) (K n : Nat) (hn : n ≤ 4) (l : List jn) (hL : cs_L M K n l) (p c : Nat) (hc : c < 2 ^ 30) (ps : List Nat) (hp : ∀ e, e < n → M.1 15 0 e = nI (am_nth ps e 9)) (Q : am_P)
    (h : ∀ M', am_fg [11, 22, 23] [12] M M' → cs_L M' K n (jn_off K l (c, p, ps)) → Q none M') : X d 57 0 [some (.inr (.inl (11, 0))), some (.inl (nI p)), some (.inl (nI c)), some (.inr (.inl (15, 0))), none, none] [] M Q := by
  obtain ⟨e0, e1, hl, hK1, hK4, hs, hv, hvi, hel⟩ := id hL
  refine am_go hX [23] 60 ?_
  refine am_cc hd (cw_takes hX _ _ K n l hL c hc _ (fun ht => ?_) (fun ht1 ht2 => ?_))
  · refine am_bne1 ?_
    -- the rest, from the place where the last one stands
    have rest : ∀ st : Nat, (l.length < K → st = l.length) → (¬ l.length < K → st = K - 1) → (st < l.length → c < (am_nth l st jn_0).1) → X d 57 23 [some (.inr (.inl (11, 0))), some (.inl (nI p)), some (.inl (nI c)), some (.inr (.inl (15, 0))), some (.inl (nI st)), some (.inr (.inl (22, M.2.1 12 st)))] [] M Q := by
      intro st hst1 hst2 hst3
      have hst4 : st < 4 := by
        by_cases z : l.length < K
        · have := hst1 z; omega
        · have := hst2 z; omega
      have hstl : st ≤ l.length := by
        by_cases z : l.length < K
        · have := hst1 z; omega
        · have := hst2 z; omega
      have fin : ∀ a : Nat, a ≤ st → (a < l.length → c < (am_nth l a jn_0).1) → (∀ i, i < a → (am_nth l i jn_0).1 ≤ c) → X d 57 46 [some (.inr (.inl (11, 0))), some (.inl (nI p)), some (.inl (nI c)), some (.inr (.inl (15, 0))), some (.inl (nI a)), some (.inr (.inl (22, M.2.1 12 st)))] [] (M.1, fun f i => if f = 12 ∧ a < i ∧ i ≤ st then M.2.1 12 (i - 1) else M.2.1 f i, M.2.2) Q := by
        intro a ha hlt hle
        refine am_go hX [] 60 ?_
        refine ⟨a, by show a < 4; omega, rfl, hd, rfl, rfl, rfl, ?_⟩
        have fg : am_fg [11, 22, 23] [12] M (am_sr (am_si (am_si (am_sv (M.1, fun f i => if f = 12 ∧ a < i ∧ i ≤ st then M.2.1 12 (i - 1) else M.2.1 f i, M.2.2) 12 a (M.2.1 12 st)) 22 (M.2.1 12 st) 0 (nI p)) 22 (M.2.1 12 st) 1 (nI c)) 23 (M.2.1 12 st) (va_cpy (M.1 15 0) (M.1 23 (M.2.1 12 st)) 0 0 4)) := by
          refine ⟨rfl, fun f k hf => ?_, fun f i k hf => ?_⟩
          · have h12 : f ≠ 12 := fun z => hf (by rw [z]; simp)
            show (if f = 12 ∧ k = a then _ else if f = 12 ∧ a < k ∧ k ≤ st then _ else M.2.1 f k) = _
            rw [if_neg (fun q => h12 q.1), if_neg (fun q => h12 q.1)]
          · have h22 : f ≠ 22 := fun z => hf (by rw [z]; simp)
            have h23 : f ≠ 23 := fun z => hf (by rw [z]; simp)
            rw [am_sr_at, if_neg (fun q => h23 q.1), am_si_at, if_neg (fun q => h22 q.1), am_si_at, if_neg (fun q => h22 q.1)]; rfl
        have gv : ∀ i, (am_sv (M.1, fun f i => if f = 12 ∧ a < i ∧ i ≤ st then M.2.1 12 (i - 1) else M.2.1 f i, M.2.2) 12 a (M.2.1 12 st)).2.1 12 i = if i = a then M.2.1 12 st else if a < i ∧ i ≤ st then M.2.1 12 (i - 1) else M.2.1 12 i := by
          intro i
          rw [am_sv_at']; simp
        have g22 : ∀ q k, (am_sr (am_si (am_si (am_sv (M.1, fun f i => if f = 12 ∧ a < i ∧ i ≤ st then M.2.1 12 (i - 1) else M.2.1 f i, M.2.2) 12 a (M.2.1 12 st)) 22 (M.2.1 12 st) 0 (nI p)) 22 (M.2.1 12 st) 1 (nI c)) 23 (M.2.1 12 st) (va_cpy (M.1 15 0) (M.1 23 (M.2.1 12 st)) 0 0 4)).1 22 q k = if q = M.2.1 12 st ∧ k = 1 then nI c else if q = M.2.1 12 st ∧ k = 0 then nI p else M.1 22 q k := by
          intro q k
          rw [am_sr_at, if_neg (by omega), am_si_at, am_si_at]; simp [am_sv]
        have g23 : ∀ q e, e < 4 → (am_sr (am_si (am_si (am_sv (M.1, fun f i => if f = 12 ∧ a < i ∧ i ≤ st then M.2.1 12 (i - 1) else M.2.1 f i, M.2.2) 12 a (M.2.1 12 st)) 22 (M.2.1 12 st) 0 (nI p)) 22 (M.2.1 12 st) 1 (nI c)) 23 (M.2.1 12 st) (va_cpy (M.1 15 0) (M.1 23 (M.2.1 12 st)) 0 0 4)).1 23 q e = if q = M.2.1 12 st then M.1 15 0 e else M.1 23 q e := by
          intro q e he4
          rw [am_sr_at]
          by_cases hq : q = M.2.1 12 st
          · rw [if_pos ⟨rfl, hq⟩, if_pos hq]
            unfold va_cpy
            rw [if_pos ⟨by omega, by omega⟩]; simp
          · rw [if_neg (fun z => hq z.2), if_neg hq, am_si_at, if_neg (by omega), am_si_at, if_neg (by omega)]; rfl
        refine ⟨fun (q : M.1 11 0 1 ≤ M.1 11 0 0) => ?_, fun (q : ¬ M.1 11 0 1 ≤ M.1 11 0 0) => ?_⟩
        · rw [e0, e1] at q
          have hlK : l.length = K := by have := (nI_leI (by omega) (by omega)).mp q; omega
          refine h _ fg (cs_fin hL hn hc hp hst1 hst2 ha hle hlt ?_ e1 gv g22 g23)
          rw [if_neg (by omega), ← hlK]; exact e0
        · rw [e0, e1] at q
          have hlK : l.length < K := by
            rcases Nat.lt_or_ge l.length K with z | z
            · exact z
            · exact absurd (nI_le z (by omega)) q
          refine h _ (am_fg_si fg (by simp)) (cs_fin hL hn hc hp hst1 hst2 ha hle hlt ?_ ?_ gv (fun q k => ?_) (fun q e he4 => ?_))
          · rw [if_pos hlK, am_si_at, if_pos ⟨rfl, rfl, rfl⟩, ← nI_1, ← e0]; rfl
          · rw [am_si_at, if_neg (by omega)]; exact e1
          · rw [am_si_at, if_neg (by omega)]; exact g22 q k
          · rw [am_si_at, if_neg (by omega)]; exact g23 q e he4
      have loop : ∀ a : Nat, a ≤ st → (a < l.length → c < (am_nth l a jn_0).1) → X d 57 23 [some (.inr (.inl (11, 0))), some (.inl (nI p)), some (.inl (nI c)), some (.inr (.inl (15, 0))), some (.inl (nI a)), some (.inr (.inl (22, M.2.1 12 st)))] [] (M.1, fun f i => if f = 12 ∧ a < i ∧ i ≤ st then M.2.1 12 (i - 1) else M.2.1 f i, M.2.2) Q := by
        intro a
        induction a with
        | zero =>
          intro ha hlt
          refine am_go hX [23, 46] 60 ?_
          exact ⟨fun _ => fin 0 ha hlt (fun i hi => by omega), fun (q : ¬ nI 0 ≤ 0) => absurd (by decide) q⟩
        | succ a ih =>
          intro ha hlt
          obtain ⟨w1, -, w3, -⟩ := hel a (by omega)
          refine am_go hX [23, 46] 60 ?_
          refine ⟨fun (q : nI (a + 1) ≤ 0) => absurd q (nI_nle (by omega) (by omega)), fun _ => ?_⟩
          refine ⟨a, by show a < 4; omega, nI_pred a, ?_⟩
          have ev : (if 12 = 12 ∧ a + 1 < a ∧ a ≤ st then M.2.1 12 (a - 1) else M.2.1 12 a) = M.2.1 12 a := if_neg (by omega)
          refine ⟨fun (q : M.1 22 (if 12 = 12 ∧ a + 1 < a ∧ a ≤ st then M.2.1 12 (a - 1) else M.2.1 12 a) 1 ≤ nI c) => ?_, fun (q : ¬ M.1 22 (if 12 = 12 ∧ a + 1 < a ∧ a ≤ st then M.2.1 12 (a - 1) else M.2.1 12 a) 1 ≤ nI c) => ?_⟩
          · rw [ev, w1] at q
            have q := (nI_leI (by omega) (by omega)).mp q
            exact fin (a + 1) ha hlt (fun i hi => Nat.le_trans (hs i a (by omega) (by omega)) q)
          · rw [ev, w1] at q
            have q : c < (am_nth l a jn_0).1 := by
              rcases Nat.lt_or_ge c (am_nth l a jn_0).1 with z | z
              · exact z
              · exact absurd (nI_le z (by omega)) q
            refine ⟨a, by show a < 4; omega, nI_pred a, a + 1, by show a + 1 < 4; omega, rfl, ?_⟩
            refine (fun (z : X d 57 23 [some (.inr (.inl (11, 0))), some (.inl (nI p)), some (.inl (nI c)), some (.inr (.inl (15, 0))), some (.inl (nI (a + 1) + (-1))), some (.inr (.inl (22, M.2.1 12 st)))] [] (am_sv (M.1, fun f i => if f = 12 ∧ a + 1 < i ∧ i ≤ st then M.2.1 12 (i - 1) else M.2.1 f i, M.2.2) 12 (a + 1) (if 12 = 12 ∧ a + 1 < a ∧ a ≤ st then M.2.1 12 (a - 1) else M.2.1 12 a)) Q) => z) ?_
            rw [pk_m1, ev]
            have := ih (by omega) (fun _ => q)
            have e : am_sv (M.1, fun f i => if f = 12 ∧ a + 1 < i ∧ i ≤ st then M.2.1 12 (i - 1) else M.2.1 f i, M.2.2) 12 (a + 1) (M.2.1 12 a) = (M.1, fun f i => if f = 12 ∧ a < i ∧ i ≤ st then M.2.1 12 (i - 1) else M.2.1 f i, M.2.2) := by
              unfold am_sv
              refine congrArg (fun z => (M.1, z, M.2.2)) ?_
              funext f i
              dsimp only
              by_cases hf : f = 12
              · subst hf
                repeat' split
                all_goals first | rfl | (exfalso; omega) | (have e : i = a + 1 := by omega
                                                            subst e; rfl)
              · simp [hf]
            rw [e]; exact this
      have := loop st (Nat.le_refl st) hst3
      have e : (M.1, fun f i => if f = 12 ∧ st < i ∧ i ≤ st then M.2.1 12 (i - 1) else M.2.1 f i, M.2.2) = M := by
        refine congrArg (fun z => (M.1, z, M.2.2)) ?_
        funext f i
        rw [if_neg (by omega)]
      rw [e] at this
      exact this
    refine ⟨fun (q : M.1 11 0 1 ≤ M.1 11 0 0) => ?_, fun (q : ¬ M.1 11 0 1 ≤ M.1 11 0 0) => ?_⟩
    · rw [e0, e1] at q
      have hlK : l.length = K := by have := (nI_leI (by omega) (by omega)).mp q; omega
      have ei : M.1 11 0 0 - 1 = nI (K - 1) := by
        rw [e0, hlK]
        obtain ⟨t, rfl⟩ : ∃ t, K = t + 1 := ⟨K - 1, by omega⟩
        exact nI_pred t
      refine ⟨K - 1, by show K - 1 < 4; omega, ei, ?_⟩
      refine (fun (z : X d 57 23 [some (.inr (.inl (11, 0))), some (.inl (nI p)), some (.inl (nI c)), some (.inr (.inl (15, 0))), some (.inl (M.1 11 0 0 - 1)), some (.inr (.inl (22, M.2.1 12 (K - 1))))] [] M Q) => z) ?_
      rw [ei]
      exact rest (K - 1) (fun z => by omega) (fun _ => rfl) (fun _ => ht.resolve_left (by omega))
    · rw [e0, e1] at q
      have hlK : l.length < K := by
        rcases Nat.lt_or_ge l.length K with z | z
        · exact z
        · exact absurd (nI_le z (by omega)) q
      refine ⟨l.length, by show l.length < 4; omega, e0, ?_⟩
      refine (fun (z : X d 57 23 [some (.inr (.inl (11, 0))), some (.inl (nI p)), some (.inl (nI c)), some (.inr (.inl (15, 0))), some (.inl (M.1 11 0 0)), some (.inr (.inl (22, M.2.1 12 l.length)))] [] M Q) => z) ?_
      rw [e0]
      exact rest l.length (fun _ => rfl) (fun z => absurd hlK z) (fun z => by omega)
  · refine am_bne0 ?_
    have := h M (am_fg_rf _ _ M)
    rw [jn_off_no hs hK1 ht1 ht2] at this
    exact this hL
