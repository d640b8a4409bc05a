theorem ck_tl_m {t : Nat} (h : t ≤ 250000) : ¬ nI t = -1 := by
  intro q
  have h1 : (nI t).toInt = (-1 : Int32).toInt := by rw [q]
  rw [nI_toInt (by omega)] at h1
  have h2 : (-1 : Int32).toInt = -1 := by decide
  omega
theorem cw_setLeast {X : am_X} (hX : am_Cl X) (d : Nat) (M : am_M) (hd : 1 ≤ d) (T : Nat → Nat → Option Nat) (nT n birth fals : Nat) (hT6 : nT ≤ 6) (hn : n ≤ 4) (hb : birth ≤ 100000) (hf : fals ≤ 100000) (h2 : M.1 10 0 2 = nI birth) (h3 : M.1 10 0 3 = nI fals) (h6 : M.1 10 0 6 = nI nT) (h7 : M.1 10 0 7 = nI n)
    (ht : ∀ k e, k < nT → e < n → M.1 13 0 (4 * k + e) = ck_tl (T k e)) (hT : ∀ k e t, T k e = some t → t ≤ 250000) (Q : am_P)
    (h : ∀ M', am_fr [14] M M' → (∀ e, e ≤ n → M'.1 14 0 e = nI (jl_s T nT birth fals (n - e) e)) → Q none M') : X d 52 0 [some (.inr (.inl (10, 0))), none, none, none, none] [] M Q := by
  refine am_go hX [11] 40 ?_
  refine ⟨n, by show n < 5; omega, h7, ?_⟩
  refine (fun (z : X d 52 11 [some (.inr (.inl (10, 0))), some (.inl (M.1 10 0 7 - 1)), none, none, none] [] (am_si M 14 0 n 0) Q) => z) ?_
  rw [h7]
  have loop : ∀ j : Nat, j ≤ n → ∀ M' : am_M, am_fr [14] M M' → (∀ e, j ≤ e → e ≤ n → M'.1 14 0 e = nI (jl_s T nT birth fals (n - e) e)) → ∀ z2 z3 z4, X d 52 11 [some (.inr (.inl (10, 0))), some (.inl (nI j - 1)), z2, z3, z4] [] M' Q := by
    intro j
    induction j with
    | zero =>
      intro hj M' fr hdone z2 z3 z4
      refine am_go hX [] 40 ?_
      exact ⟨fun _ => h M' fr (fun e he => hdone e (Nat.zero_le e) he), fun (q : ¬ nI 0 - 1 < 0) => absurd (by decide) q⟩
    | succ j ih =>
      intro hj M' fr hdone z2 z3 z4
      rw [nI_pred]
      refine am_go hX [21] 40 ?_
      refine ⟨fun (q : nI j < 0) => absurd q (nI_pos (by omega)), fun _ => am_cc hd (lb_min hX _ _ _ _ _ ?_)⟩
      have em : (if M'.1 10 0 3 < M'.1 10 0 2 then M'.1 10 0 3 else M'.1 10 0 2) = nI (jl_m T birth fals j 0) := by
        rw [fr.2 10 0 3 (by simp), fr.2 10 0 2 (by simp), h2, h3]
        unfold jl_m
        by_cases z : fals < birth
        · rw [if_pos (nI_lt z (by omega)), if_pos z]
        · rw [if_neg (nI_nlt (by omega) (by omega)), if_neg z]
      refine (fun (z : X d 52 21 [some (.inr (.inl (10, 0))), some (.inl (nI j)), some (.inl (if M'.1 10 0 3 < M'.1 10 0 2 then M'.1 10 0 3 else M'.1 10 0 2)), some (.inl (nI 0)), z4] [] M' Q) => z) ?_
      rw [em]
      have inner : ∀ t k : Nat, k + t = nT → ∀ z4, X d 52 21 [some (.inr (.inl (10, 0))), some (.inl (nI j)), some (.inl (nI (jl_m T birth fals j k))), some (.inl (nI k)), z4] [] M' Q := by
        intro t
        induction t with
        | zero =>
          intro k hk z4
          have hk : k = nT := by omega
          subst hk
          have e6 : M'.1 10 0 6 = nI k := (fr.2 10 0 6 (by simp)).trans h6
          refine am_go hX [11] 60 ?_
          refine ⟨fun _ => ?_, fun (q : ¬ M'.1 10 0 6 ≤ nI k) => absurd (by rw [e6]; exact nI_le (Nat.le_refl _) (by omega)) q⟩
          refine ⟨j + 1, by show j + 1 < 5; omega, nI_1 j, j, by show j < 5; omega, rfl, ?_⟩
          refine (fun (z : X d 52 11 [some (.inr (.inl (10, 0))), some (.inl (nI j + (-1))), some (.inl (nI (jl_m T birth fals j k))), some (.inl (nI k)), z4] [] (am_si M' 14 0 j (M'.1 14 0 (j + 1) + nI (jl_m T birth fals j k))) Q) => z) ?_
          rw [show nI j + (-1) = nI j - 1 from (Int32.sub_eq_add_neg _ _).symm, hdone (j + 1) (by omega) hj, nI_add]
          refine ih (by omega) _ (am_fr_si fr (by simp)) (fun e he1 he2 => ?_) _ _ _
          rw [am_si_at]
          by_cases z : e = j
          · subst z
            rw [if_pos ⟨rfl, rfl, rfl⟩, show n - e = (n - (e + 1)) + 1 by omega]
            simp only [jl_s]; congr 1; omega
          · rw [if_neg (by omega)]; exact hdone e (by omega) he2
        | succ t iht =>
          intro k hk z4
          have e6 : M'.1 10 0 6 = nI nT := (fr.2 10 0 6 (by simp)).trans h6
          have et : M'.1 13 0 (4 * k + j) = ck_tl (T k j) := (fr.2 13 0 _ (by simp)).trans (ht k j (by omega) (by omega))
          have ix : 4 * nI k + nI j = nI (4 * k + j) := by rw [show (4 : Int32) = nI 4 from rfl, pk_mul, nI_add]
          have hml := (jl_m_b T birth fals j k).1
          have nxt : ∀ v : Int32, v = nI (jl_m T birth fals j (k + 1)) → ∀ z4, X d 52 41 [some (.inr (.inl (10, 0))), some (.inl (nI j)), some (.inl (v)), some (.inl (nI k)), z4] [] M' Q := by
            rintro v rfl z4
            refine am_go hX [21] 60 ?_
            refine (fun (z : X d 52 21 [some (.inr (.inl (10, 0))), some (.inl (nI j)), some (.inl (nI (jl_m T birth fals j (k + 1)))), some (.inl (nI k + 1)), z4] [] M' Q) => z) ?_
            rw [nI_1]
            exact iht (k + 1) (by omega) z4
          refine am_go hX [21, 41] 60 ?_
          refine ⟨fun (q : M'.1 10 0 6 ≤ nI k) => absurd q (by rw [e6]; exact nI_ge (by omega) (by omega)), fun _ => ?_⟩
          refine ⟨4 * k + j, by show 4 * k + j < 24; omega, ix, ?_⟩
          cases hTk : T k j with
          | none =>
            rw [hTk] at et
            refine ⟨fun _ => nxt _ ?_ _, fun (q : ¬ M'.1 13 0 (4 * k + j) = -1) => absurd et q⟩
            rw [jl_m, hTk]
          | some tl =>
            rw [hTk] at et
            have htl := hT k j tl hTk
            refine ⟨fun (q : M'.1 13 0 (4 * k + j) = -1) => absurd (et.symm.trans q) (ck_tl_m htl), fun _ => am_cc hd (lb_min hX _ _ _ _ _ ?_)⟩
            refine nxt _ ?_ _
            show (if M'.1 13 0 (4 * k + j) < nI (jl_m T birth fals j k) then M'.1 13 0 (4 * k + j) else nI (jl_m T birth fals j k)) = _
            rw [et, jl_m, hTk]
            show (if nI tl < nI (jl_m T birth fals j k) then nI tl else nI (jl_m T birth fals j k)) = nI (if tl < jl_m T birth fals j k then tl else jl_m T birth fals j k)
            by_cases z : tl < jl_m T birth fals j k
            · rw [if_pos (nI_lt z (by omega)), if_pos z]
            · rw [if_neg (nI_nlt (by omega) (by omega)), if_neg z]
      exact inner nT 0 (by omega) _
  refine loop n (Nat.le_refl n) _ (am_fr_si (am_fr_rf _ M) (by simp)) (fun e he1 he2 => ?_) _ _ _
  have : e = n := by omega
  subst this
  rw [am_si_at, if_pos ⟨rfl, rfl, rfl⟩, Nat.sub_self]; rfl
theorem cw_goBy {X : am_X} (hX : am_Cl X) (d : Nat) (M : am_M) (τ : ta) (hτ : ta_ok τ) (h6 : ∀ k, k < 6 → M.1 6 0 k = nI (ta_ru τ k)) (Q : am_P) (h : ∀ M', am_fg [10] [] (am_sl M M'.2.2) M' → M'.1 10 0 1 = nI (ta_ru τ 1) → M'.1 10 0 2 = nI (ta_ru τ 2) → M'.1 10 0 3 = nI (ta_ru τ 3) → M'.2.2.toInt = (ta_ru τ 0 * ta_ru τ 0 : Nat) → Q none M') : X d 48 0 [some (.inr (.inl (10, 0))), some (.inr (.inl (6, 0)))] [] M Q := by
  refine am_go hX [] 40 ?_
  refine ⟨1, by show 1 < 6; omega, rfl, 2, by show 2 < 6; omega, rfl, 3, by show 3 < 6; omega, rfl, 0, by show 0 < 6; omega, rfl, 0, by show 0 < 6; omega, rfl, ?_⟩
  refine h _ ⟨rfl, fun _ _ _ => rfl, fun f i k hf => ?_⟩ ?_ ?_ ?_ ?_
  · have h10 : f ≠ 10 := fun z => hf (by rw [z]; simp)
    show (am_si (am_si (am_si M 10 0 1 (M.1 6 0 1)) 10 0 2 (M.1 6 0 2)) 10 0 3 (M.1 6 0 3)).1 f i k = _
    rw [am_si_at, if_neg (fun q => h10 q.1), am_si_at, if_neg (fun q => h10 q.1), am_si_at, if_neg (fun q => h10 q.1)]; rfl
  · show (am_si (am_si (am_si M 10 0 1 (M.1 6 0 1)) 10 0 2 (M.1 6 0 2)) 10 0 3 (M.1 6 0 3)).1 10 0 1 = _
    rw [am_si_at, if_neg (by omega), am_si_at, if_neg (by omega), am_si_at, if_pos ⟨rfl, rfl, rfl⟩]; exact h6 1 (by omega)
  · show (am_si (am_si (am_si M 10 0 1 (M.1 6 0 1)) 10 0 2 (M.1 6 0 2)) 10 0 3 (M.1 6 0 3)).1 10 0 2 = _
    rw [am_si_at, if_neg (by omega), am_si_at, if_pos ⟨rfl, rfl, rfl⟩]; exact h6 2 (by omega)
  · show (am_si (am_si (am_si M 10 0 1 (M.1 6 0 1)) 10 0 2 (M.1 6 0 2)) 10 0 3 (M.1 6 0 3)).1 10 0 3 = _
    rw [am_si_at, if_pos ⟨rfl, rfl, rfl⟩]; exact h6 3 (by omega)
  · show ((M.1 6 0 0).toInt64 * (M.1 6 0 0).toInt64).toInt = _
    have hg := hτ.2.2.2.2.1
    have e : (M.1 6 0 0).toInt64.toInt = (ta_ru τ 0 : Int) := by rw [lz_of, h6 0 (by omega), nI_toInt (by omega)]
    have hb := iz_sq (a := (ta_ru τ 0 : Int)) (b := 500) (by omega) (by omega)
    rw [lz_mul (by rw [e]; omega) (by rw [e]; omega), e, Int.natCast_mul]
theorem cw_countLooked {X : am_X} (hX : am_Cl X) (d : Nat) (M : am_M) (p n : Nat) (hn : n ≤ 6) (t : Nat → Nat → Int32) (h1 : M.1 24 p 1 = nI n) (ht : ∀ k, k < n → M.1 27 (6 * p + k) 8 = t k 8) (Q : am_P) (h : Q (some (.inl (nI (wd_lk t n)))) M) : X d 68 0 [some (.inr (.inl (24, p))), none, none] [] M Q := by
  refine am_go hX [4] 40 ?_
  have loop : ∀ r k : Nat, k + r = n → X d 68 4 [some (.inr (.inl (24, p))), some (.inl (nI (wd_lk t k))), some (.inl (nI k))] [] M Q := by
    intro r
    induction r with
    | zero =>
      intro k hk
      have hk : k = n := by omega
      subst hk
      refine am_go hX [4] 40 ?_
      exact ⟨fun _ => h, fun (q : ¬ M.1 24 p 1 ≤ nI k) => absurd (by rw [h1]; exact nI_le (Nat.le_refl _) (by omega)) q⟩
    | succ r ih =>
      intro k hk
      refine am_go hX [4] 40 ?_
      refine ⟨fun (q : M.1 24 p 1 ≤ nI k) => absurd q (by rw [h1]; exact nI_ge (by omega) (by omega)), fun _ => ?_⟩
      refine ⟨k, by show k < 6; omega, rfl, fun (q : M.1 27 (6 * p + k) 8 = 0) => ?_, fun (q : ¬ M.1 27 (6 * p + k) 8 = 0) => ?_⟩
      · refine (fun (z : X d 68 4 [some (.inr (.inl (24, p))), some (.inl (nI (wd_lk t k) + 1)), some (.inl (nI k + 1))] [] M Q) => z) ?_
        rw [nI_1, nI_1]
        have := ih (k + 1) (by omega)
        rw [wd_lk, if_pos ((ht k (by omega)).symm.trans q)] at this; exact this
      · refine (fun (z : X d 68 4 [some (.inr (.inl (24, p))), some (.inl (nI (wd_lk t k) + 0)), some (.inl (nI k + 1))] [] M Q) => z) ?_
        rw [nI_1, Int32.add_zero]
        have := ih (k + 1) (by omega)
        rw [wd_lk, if_neg (fun z => q ((ht k (by omega)).trans z))] at this; exact this
  exact loop n 0 (by omega)
theorem wd_lk_cnt (t : Nat → Nat → Int32) : ∀ n, wd_lk t n = jn_cnt (fun k => decide (t k 8 = 0)) (fun _ => false) n
  | 0 => rfl
  | n + 1 => by
    rw [wd_lk, jn_cnt, wd_lk_cnt t n]
    by_cases h : t n 8 = 0
    · rw [if_pos h, if_pos ⟨by simp [h], rfl⟩]
    · rw [if_neg h, if_neg (fun q => h (by simpa using q.1))]
set_option maxHeartbeats 1000000 in
theorem cw_deal {X : am_X} (hX : am_Cl X) (d : Nat) (M : am_M) (hd : 7 ≤ d) (τ : ta) (hτ : ta_ok τ) (hT : rc_T M τ) (s p q : Nat) (hs : s < ta_n τ) (hp : p < 8) (P : Nat → Prop) (w : wd) (hW : rc_W M τ P p w) (m0 : Nat) (hm0 : m0 ≤ 12) (hw : wd_ok m0 w) (K : Nat) (l : List jn) (hL : cs_L M K (ta_dn τ s) l)
    (g1 : M.1 10 0 1 = nI (ta_ru τ 1)) (g2 : M.1 10 0 2 = nI (ta_ru τ 2)) (g3 : M.1 10 0 3 = nI (ta_ru τ 3)) (hg : M.2.2.toInt = (ta_ru τ 0 * ta_ru τ 0 : Nat)) (htk : ∀ k, k < 6 → M.1 16 0 k = 0) (Q : am_P)
    (h : ∀ M', am_fg [10, 11, 13, 14, 15, 16, 22, 23] [12] M M' → M'.1 10 0 1 = nI (ta_ru τ 1) → M'.1 10 0 2 = nI (ta_ru τ 2) → M'.1 10 0 3 = nI (ta_ru τ 3) → (∀ k, k < 6 → M'.1 16 0 k = 0) → cs_L M' K (ta_dn τ s) (((jn_all τ s w).map (jn_J q)).foldl (jn_off K) l) → Q none M') : X d 49 0 [some (.inr (.inl (10, 0))), some (.inl (nI q)), some (.inr (.inl (24, p))), some (.inr (.inl (1, 0))), some (.inl (nI s))] [] M Q := by
  obtain ⟨r1, r2, r3, r4, r5, r6, r7⟩ := id hT
  obtain ⟨sw, sm, sd, se⟩ := r5 s hs
  obtain ⟨w1, w2, w3, -⟩ := id hW
  obtain ⟨o1, o2, o3⟩ := id hw
  have b3 := (hτ.2.2.1 s hs).2.2.1
  have hn12 := hτ.1
  obtain ⟨ru0, ru1, ru2, ru3, ru4, ru5⟩ := hτ.2.2.2.2
  refine am_go hX [] 40 ?_
  refine ⟨s, by show s < 13; omega, rfl, am_cc (by omega) ?_⟩
  generalize hM1 : am_si (am_si (am_si M 10 0 5 (nI q)) 10 0 6 (M.1 24 p 1)) 10 0 7 (M.1 18 (M.2.1 4 s) 2) = M1
  have fr1 : am_fg [10] [] M M1 := by rw [← hM1]; exact am_fg_si (am_fg_si (am_fg_si (am_fg_rf _ _ _) (by simp)) (by simp)) (by simp)
  have e5 : M1.1 10 0 5 = nI q := by rw [← hM1, am_si_at, if_neg (by omega), am_si_at, if_neg (by omega), am_si_at, if_pos ⟨rfl, rfl, rfl⟩]
  have e6 : M1.1 10 0 6 = nI (wd_n w) := by rw [← hM1, am_si_at, if_neg (by omega), am_si_at, if_pos ⟨rfl, rfl, rfl⟩, w2]
  have e7 : M1.1 10 0 7 = nI (ta_dn τ s) := by rw [← hM1, am_si_at, if_pos ⟨rfl, rfl, rfl⟩, sd]
  have k1 : M1.1 10 0 1 = nI (ta_ru τ 1) := by rw [← hM1, am_si_at, if_neg (by omega), am_si_at, if_neg (by omega), am_si_at, if_neg (by omega), g1]
  have k2 : M1.1 10 0 2 = nI (ta_ru τ 2) := by rw [← hM1, am_si_at, if_neg (by omega), am_si_at, if_neg (by omega), am_si_at, if_neg (by omega), g2]
  have k3 : M1.1 10 0 3 = nI (ta_ru τ 3) := by rw [← hM1, am_si_at, if_neg (by omega), am_si_at, if_neg (by omega), am_si_at, if_neg (by omega), g3]
  refine (fun (z : X (d - 1) 50 0 [some (.inr (.inl (10, 0))), some (.inr (.inl (24, p))), some (.inr (.inl (1, 0))), some (.inl (nI s)), none, none, none, none, none, none, none, none] [] (am_si (am_si (am_si M 10 0 5 (nI q)) 10 0 6 (M.1 24 p 1)) 10 0 7 (M.1 18 (M.2.1 4 s) 2)) _) => z) ?_
  rw [hM1]
  refine cw_setTolls hX _ _ (by omega) τ hτ (rc_T_fr hT fr1 (by simp) (by simp)) s p hs hp P w (rc_W_fr hW fr1 (by simp)) m0 hw e6 e7 (by rw [fr1.1]; exact hg) _ (fun M2 fr2 ht2 => ?_)
  have hTb : ∀ k e t, (fun k e => tk_toll τ (wd_t w k) s e) k e = some t → t ≤ 250000 ∧ (fun k => decide (wd_t w k 8 = 0)) k = true := by
    intro k e t hq
    dsimp only at hq ⊢
    unfold tk_toll at hq
    split at hq
    · rename_i z
      cases hq
      refine ⟨?_, by simpa using z.1⟩
      have := Nat.mul_le_mul ru0 ru0
      omega
    · cases hq
  refine am_cc (by omega) (cw_setLeast hX _ _ (by omega) (fun k e => tk_toll τ (wd_t w k) s e) (wd_n w) (ta_dn τ s) (ta_ru τ 2) (ta_ru τ 3) o1 b3 ru2 ru3 ((fr2.2 10 0 2 (by simp)).trans k2) ((fr2.2 10 0 3 (by simp)).trans k3) ((fr2.2 10 0 6 (by simp)).trans e6) ((fr2.2 10 0 7 (by simp)).trans e7) ht2 (fun k e t hq => (hTb k e t hq).1) _ (fun M3 fr3 hl3 => ?_))
  have frA : am_fg [10, 13, 14] [] M M3 := am_fg_tr (am_fg_mono fr1 (by simp) (by simp)) (am_fg_tr (am_fg_mono (am_fg_of fr2 []) (by simp) (by simp)) (am_fg_mono (am_fg_of fr3 []) (by simp) (by simp)))
  have t10 : ∀ k, M3.1 10 0 k = M1.1 10 0 k := fun k => (fr3.2 10 0 k (by simp)).trans (fr2.2 10 0 k (by simp))
  refine am_cc (by omega) (cw_countLooked hX _ _ p (wd_n w) o1 (wd_t w) ((frA.2.2 24 _ _ (by simp)).trans w2) (fun k hk => (frA.2.2 27 _ _ (by simp)).trans (w3 k hk 8 (by omega))) _ ?_)
  refine am_cc (by omega) ?_
  refine (fun (z : X (d - 1) 54 0 [some (.inr (.inl (10, 0))), some (.inl (nI 0)), some (.inl (M3.1 24 p 0)), some (.inl (nI (wd_lk (wd_t w) (wd_n w)))), some (.inl (nI 0)), none, none] [] M3 _) => z) ?_
  rw [frA.2.2 24 p 0 (by simp), w1]
  have hD : cs_D M3 (fun k e => tk_toll τ (wd_t w k) s e) (fun k => decide (wd_t w k 8 = 0)) (wd_n w) (ta_dn τ s) q (ta_ru τ 1) (ta_ru τ 2) (ta_ru τ 3) := by
    refine ⟨(t10 1).trans k1, (t10 2).trans k2, (t10 3).trans k3, (t10 5).trans e5, (t10 6).trans e6, (t10 7).trans e7, o1, b3, ru1, ru2, ru3, fun k e hk he => ?_, hTb, hl3⟩
    rw [fr3.2 13 0 _ (by simp), ht2 k e hk he]
    unfold ck_tl; rfl
  have hlk : wd_lk (wd_t w) (wd_n w) ≤ 6 := by rw [wd_lk_cnt]; have := jn_cnt_le (fun k => decide (wd_t w k 8 = 0)) (fun _ => false) (wd_n w); omega
  refine cw_dealFrom hX (fun k e => tk_toll τ (wd_t w k) s e) (fun k => decide (wd_t w k 8 = 0)) (wd_n w) (ta_dn τ s) q (ta_ru τ 1) (ta_ru τ 2) (ta_ru τ 3) K (ta_dn τ s) (d - 1) (by omega) M3 l 0 (wd_c w) (wd_lk (wd_t w) (wd_n w)) 0 (fun _ => false) [] hD (cs_L_fr hL frA (by simp) (by simp) (by simp) (by simp)) (by omega) rfl (wd_lk_cnt _ _) (Nat.le_refl 0) (by omega) (fun k hk => ?_) (fun i hi => by omega) _ (fun M4 fr4 hL4 ht4 _ => ?_)
  · rw [frA.2.2 16 0 k (by simp), htk k hk]; rfl
  · refine h M4 (am_fg_tr (am_fg_mono frA (by simp) (by simp)) (am_fg_mono fr4 (by simp) (by simp))) ?_ ?_ ?_ (fun k hk => ?_) hL4
    · rw [fr4.2.2 10 0 1 (by simp)]; exact (t10 1).trans k1
    · rw [fr4.2.2 10 0 2 (by simp)]; exact (t10 2).trans k2
    · rw [fr4.2.2 10 0 3 (by simp)]; exact (t10 3).trans k3
    · rw [ht4 k hk, frA.2.2 16 0 k (by simp)]; exact htk k hk
