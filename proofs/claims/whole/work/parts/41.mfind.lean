/-- what the reference's table of joins holds: of a dot and a pick -/
def mj_v (τ : ta) (s : Nat) (w : wd) (e k : Nat) : Int32 := if k < 6 then (if k < wd_n w then ck_tl (tk_toll τ (wd_t w k) s e) else -1) else if k = 6 then nI (ta_ru τ 2) else nI (ta_ru τ 3)
set_option maxHeartbeats 1000000 in
theorem cm_findJoins {X : am_X} (hX : am_Cl X) (d : Nat) (M : am_M) (hd : 1 ≤ d) (τ : ta) (hτ : ta_ok τ) (hT : rm_T M τ) (s p : Nat) (hs : s < ta_n τ) (hp : p < 8) (P : Nat → Prop) (w : wd) (hW : rm_W M τ P p w) (m0 : Nat) (hw : wd_ok m0 w) (Q : am_P)
    (h : ∀ M', am_fr [55] M M' → (∀ e k, e < ta_dn τ s → k < 8 → M'.1 55 0 (8 * e + k) = mj_v τ s w e k) → Q none M') : X d 97 0 [some (.inr (.inl (28, 0))), some (.inl (nI p)), some (.inl (nI s)), none, none, none, none, none, none, none, none, none, none] [] M Q := by
  obtain ⟨h1, h2, h3, h4, h5⟩ := id hT
  obtain ⟨a1, a2, a3, a4⟩ := h3 s hs
  obtain ⟨b1, b2, b3, b4⟩ := hτ.2.2.1 s hs
  obtain ⟨w1, w2, w3, -⟩ := hW
  obtain ⟨o1, o2, o3⟩ := hw
  have hn := hτ.1
  have hgate : ta_ru τ 0 ≤ 500 := hτ.2.2.2.2.1
  have hkd := hτ.2.2.2.1
  refine am_go hX [2] 40 ?_
  have outer : ∀ t e : Nat, e + t = ta_dn τ s → ∀ M' : am_M, am_fr [55] M M' → (∀ e' k, e' < e → k < 8 → M'.1 55 0 (8 * e' + k) = mj_v τ s w e' k) → ∀ z4 z5 z6 z7 z8 z9 z10 z11 z12, X d 97 2 [some (.inr (.inl (28, 0))), some (.inl (nI p)), some (.inl (nI s)), some (.inl (nI e)), z4, z5, z6, z7, z8, z9, z10, z11, z12] [] M' Q := by
    intro t
    induction t with
    | zero =>
      intro e he M' fr hdone z4 z5 z6 z7 z8 z9 z10 z11 z12
      have he : e = ta_dn τ s := by omega
      subst he
      have e3 : M'.1 33 0 s = nI (ta_dn τ s) := (fr.2 33 0 s (by simp)).trans a3
      refine am_go hX [2] 40 ?_
      exact ⟨s, by show s < 12; omega, rfl, fun _ => h M' fr hdone, fun (q : ¬ M'.1 33 0 s ≤ nI (ta_dn τ s)) => absurd (by rw [e3]; exact nI_le (Nat.le_refl _) (by omega)) q⟩
    | succ t ih =>
      intro e he M' fr hdone z4 z5 z6 z7 z8 z9 z10 z11 z12
      have hen : e < ta_dn τ s := by omega
      have e3 : M'.1 33 0 s = nI (ta_dn τ s) := (fr.2 33 0 s (by simp)).trans a3
      have ix8 : ∀ k, 8 * nI e + nI k = nI (8 * e + k) := fun k => by rw [show (8 : Int32) = nI 8 from rfl, pk_mul, nI_add]
      have inner : ∀ t2 k : Nat, k + t2 = 6 → ∀ M2 : am_M, am_fr [55] M M2 → (∀ e' k', e' < e → k' < 8 → M2.1 55 0 (8 * e' + k') = mj_v τ s w e' k') → (∀ k', k' < k → M2.1 55 0 (8 * e + k') = mj_v τ s w e k') → ∀ z5 z6 z7 z8 z9 z10 z11 z12, X d 97 10 [some (.inr (.inl (28, 0))), some (.inl (nI p)), some (.inl (nI s)), some (.inl (nI e)), some (.inl (nI k)), z5, z6, z7, z8, z9, z10, z11, z12] [] M2 Q := by
        intro t2
        induction t2 with
        | zero =>
          intro k hk M2 fr2 hd1 hd2 z5 z6 z7 z8 z9 z10 z11 z12
          have hk : k = 6 := by omega
          subst hk
          have r2 : M2.1 41 0 2 = nI (ta_ru τ 2) := (fr2.2 41 0 2 (by simp)).trans (h5 2 (by omega))
          have r3 : M2.1 41 0 3 = nI (ta_ru τ 3) := (fr2.2 41 0 3 (by simp)).trans (h5 3 (by omega))
          refine am_go hX [2] 60 ?_
          refine ⟨fun _ => ?_, fun (q : ¬ (6 : Int32) ≤ nI 6) => absurd (by decide) q⟩
          refine ⟨2, by show 2 < 6; omega, rfl, 8 * e + 6, by show 8 * e + 6 < 32; omega, ix8 6, 3, by show 3 < 6; omega, rfl, 8 * e + 7, by show 8 * e + 7 < 32; omega, ix8 7, ?_⟩
          refine (fun (z : X d 97 2 [some (.inr (.inl (28, 0))), some (.inl (nI p)), some (.inl (nI s)), some (.inl (nI e + 1)), some (.inl (nI 6)), z5, z6, z7, z8, z9, z10, z11, z12] [] (am_si (am_si M2 55 0 (8 * e + 6) (M2.1 41 0 2)) 55 0 (8 * e + 7) (M2.1 41 0 3)) Q) => z) ?_
          rw [nI_1, r2, r3]
          refine ih (e + 1) (by omega) _ (am_fr_si (am_fr_si fr2 (by simp)) (by simp)) (fun e' k' he' hk' => ?_) _ _ _ _ _ _ _ _ _
          rw [am_si_at, am_si_at]
          by_cases z : e' = e
          · subst z
            by_cases c7 : k' = 7
            · subst c7; rw [if_pos ⟨rfl, rfl, rfl⟩]; rfl
            · rw [if_neg (by omega)]
              by_cases c6 : k' = 6
              · subst c6; rw [if_pos ⟨rfl, rfl, rfl⟩]; rfl
              · rw [if_neg (by omega)]; exact hd2 k' (by omega)
          · rw [if_neg (by omega), if_neg (by omega)]; exact hd1 e' k' (by omega) hk'
        | succ t2 ih2 =>
          intro k hk M2 fr2 hd1 hd2 z5 z6 z7 z8 z9 z10 z11 z12
          have e4 : M2.1 44 0 p = nI (wd_n w) := (fr2.2 44 0 p (by simp)).trans w2
          have hT2 : rm_T M2 τ := rm_T_fr hT (am_fg_of fr2 []) (by simp)
          -- behind this pick
          have nxt : ∀ (M3 : am_M), am_fr [55] M M3 → (∀ j, j ≠ 8 * e + k → M3.1 55 0 j = M2.1 55 0 j) → M3.1 55 0 (8 * e + k) = mj_v τ s w e k → ∀ z5 z6 z7 z8 z9 z10 z11 z12, X d 97 124 [some (.inr (.inl (28, 0))), some (.inl (nI p)), some (.inl (nI s)), some (.inl (nI e)), some (.inl (nI k)), z5, z6, z7, z8, z9, z10, z11, z12] [] M3 Q := by
            intro M3 fr3 hsame hval z5 z6 z7 z8 z9 z10 z11 z12
            refine am_go hX [10] 60 ?_
            refine (fun (z : X d 97 10 [some (.inr (.inl (28, 0))), some (.inl (nI p)), some (.inl (nI s)), some (.inl (nI e)), some (.inl (nI k + 1)), z5, z6, z7, z8, z9, z10, z11, z12] [] M3 Q) => z) ?_
            rw [nI_1]
            refine ih2 (k + 1) (by omega) M3 fr3 (fun e' k' he' hk' => ?_) (fun k' hk' => ?_) _ _ _ _ _ _ _ _
            · rw [hsame _ (by omega)]; exact hd1 e' k' he' hk'
            · by_cases z : k' = k
              · subst z; exact hval
              · rw [hsame _ (by omega)]; exact hd2 k' (by omega)
          have fr3 : am_fr [55] M (am_si M2 55 0 (8 * e + k) (-1)) := am_fr_si fr2 (by simp)
          have sm3 : ∀ j, j ≠ 8 * e + k → (am_si M2 55 0 (8 * e + k) (-1)).1 55 0 j = M2.1 55 0 j := fun j hj => by rw [am_si_at, if_neg (fun z => hj z.2.2)]
          have at3 : (am_si M2 55 0 (8 * e + k) (-1)).1 55 0 (8 * e + k) = -1 := by rw [am_si_at, if_pos ⟨rfl, rfl, rfl⟩]
          have ix6 : 6 * nI p + nI k = nI (6 * p + k) := by rw [show (6 : Int32) = nI 6 from rfl, pk_mul, nI_add]
          refine am_go hX [10, 40, 124] 60 ?_
          refine ⟨fun (q : (6 : Int32) ≤ nI k) => absurd q (nI_ge (b := 6) (by omega) (by decide)), fun _ => ?_⟩
          refine ⟨8 * e + k, by show 8 * e + k < 32; omega, ix8 k, p, hp, rfl, fun (q : M2.1 44 0 p ≤ nI k) => ?_, fun (q : ¬ M2.1 44 0 p ≤ nI k) => ?_⟩
          · rw [e4] at q
            have q := (nI_leI (by omega) (by omega)).mp q
            refine nxt _ fr3 sm3 ?_ _ _ _ _ _ _ _ _
            rw [at3, mj_v, if_pos (by omega), if_neg (by omega)]
          · rw [e4] at q
            have hkn : k < wd_n w := by
              rcases Nat.lt_or_ge k (wd_n w) with z | z
              · exact z
              · exact absurd (nI_le z (by omega)) q
            have hok := o3 k hkn
            have htr : ∀ j, j < 9 → M2.1 (46 + j) 0 (6 * p + k) = wd_t w k j := fun j hj => (fr2.2 (46 + j) 0 _ (by simp; omega)).trans (w3 k hkn j hj)
            have r8 : M2.1 54 0 (6 * p + k) = wd_t w k 8 := htr 8 (by omega)
            refine ⟨6 * p + k, by show 6 * p + k < 48; omega, ix6, fun (q8 : M2.1 54 0 (6 * p + k) = 0) => ?_, fun (q8 : ¬ M2.1 54 0 (6 * p + k) = 0) => ?_⟩
            · -- the track is looked for
              refine (fun (z : X d 97 40 [some (.inr (.inl (28, 0))), some (.inl (nI p)), some (.inl (nI s)), some (.inl (nI e)), some (.inl (nI k)), some (.inl (6 * nI p + nI k)), z6, z7, z8, z9, z10, z11, z12] [] (am_si M2 55 0 (8 * e + k) (-1)) Q) => z) ?_
              rw [ix6]
              have hT3 : rm_T (am_si M2 55 0 (8 * e + k) (-1)) τ := rm_T_fr hT (am_fg_of fr3 []) (by simp)
              generalize hM3 : am_si M2 55 0 (8 * e + k) (-1) = M3 at fr3 sm3 at3 hT3 ⊢
              have htr3 : ∀ j, j < 9 → M3.1 (46 + j) 0 (6 * p + k) = wd_t w k j := fun j hj => (fr3.2 (46 + j) 0 _ (by simp; omega)).trans (w3 k hkn j hj)
              have q8 : wd_t w k 8 = 0 := r8.symm.trans q8
              obtain ⟨c1, c2, c3, c4, c5⟩ := id hT3
              obtain ⟨d1, d2, d3, d4⟩ := c3 s hs
              have hmo : (nI (ta_mo τ s)).toInt = (ta_mo τ s : Int) := nI_toInt (by omega)
              have bfx := tk_f_bd (τ := τ) hok (show (0 : Int) ≤ ta_mo τ s by omega) (by omega) (c := 0) (Or.inl rfl)
              have bfy := tk_f_bd (τ := τ) hok (show (0 : Int) ≤ ta_mo τ s by omega) (by omega) (c := 1) (Or.inr rfl)
              obtain ⟨bx, by_⟩ := ta_rx_bd hτ hs hen
              unfold ta_in at bx by_
              have ix4 : 4 * nI s + nI e = nI (4 * s + e) := by rw [show (4 : Int32) = nI 4 from rfl, pk_mul, nI_add]
              refine am_go hX [10, 114, 124] 90 ?_
              refine am_cc hd (cm_rightX hX _ _ τ hτ hT3 s e hs hen _ ?_)
              refine ⟨s, by show s < 12; omega, rfl, am_cc hd (cm_foretold hX _ _ τ hkd c4 (6 * p + k) (by omega) (wd_t w k) htr3 hok (M3.1 32 0 s) (by rw [d2, hmo]; omega) (by rw [d2, hmo]; omega) 0 (Or.inl rfl) _ (fun vx hvx => ?_))⟩
              refine am_cc hd (cm_rightY hX _ _ τ hτ hT3 s e hs hen _ ?_)
              refine ⟨s, by show s < 12; omega, rfl, am_cc hd (cm_foretold hX _ _ τ hkd c4 (6 * p + k) (by omega) (wd_t w k) htr3 hok (M3.1 32 0 s) (by rw [d2, hmo]; omega) (by rw [d2, hmo]; omega) 1 (Or.inr rfl) _ (fun vy hvy => ?_))⟩
              have hvx : vx.toInt = tk_f τ (wd_t w k) (ta_mo τ s) 0 := by
                have hvx : vx.toInt = tk_f τ (wd_t w k) (M3.1 32 0 s).toInt 0 := hvx
                rw [d2, hmo] at hvx; exact hvx
              have hvy : vy.toInt = tk_f τ (wd_t w k) (ta_mo τ s) 1 := by
                have hvy : vy.toInt = tk_f τ (wd_t w k) (M3.1 32 0 s).toInt 1 := hvy
                rw [d2, hmo] at hvy; exact hvy
              have fx : ((ta_rx τ s e).toInt64 - vx).toInt = (ta_rx τ s e).toInt - tk_f τ (wd_t w k) (ta_mo τ s) 0 := by rw [lz_sub (by rw [lz_of, hvx]; omega) (by rw [lz_of, hvx]; omega), lz_of, hvx]
              have fy : ((ta_ry τ s e).toInt64 - vy).toInt = (ta_ry τ s e).toInt - tk_f τ (wd_t w k) (ta_mo τ s) 1 := by rw [lz_sub (by rw [lz_of, hvy]; omega) (by rw [lz_of, hvy]; omega), lz_of, hvy]
              have g0 : (M3.1 41 0 0).toInt64.toInt = (ta_ru τ 0 : Int) := by rw [lz_of, c5 0 (by omega), nI_toInt (by omega)]
              have gb := iz_sq (a := (ta_ru τ 0 : Int)) (b := 500) (by omega) (by omega)
              have gg : ((M3.1 41 0 0).toInt64 * (M3.1 41 0 0).toInt64).toInt = (ta_ru τ 0 * ta_ru τ 0 : Nat) := by rw [lz_mul (by rw [g0]; omega) (by rw [g0]; omega), g0, Int.natCast_mul]
              have hck : ck_toll ((M3.1 41 0 0).toInt64 * (M3.1 41 0 0).toInt64) ((ta_rx τ s e).toInt64 - vx) ((ta_ry τ s e).toInt64 - vy) = if tk_sq τ (wd_t w k) s e ≤ ta_ru τ 0 * ta_ru τ 0 then nI (tk_sq τ (wd_t w k) s e) else -1 := ck_toll_ok gg hgate fx fy (by omega) (by omega)
              unfold ck_toll at hck
              refine ⟨4 * s + e, by show 4 * s + e < 48; omega, ix4, 0, by show 0 < 6; omega, rfl, 0, by show 0 < 6; omega, rfl, ?_⟩
              have em : M3.1 36 0 (4 * s + e) = nI (ta_dm τ s e) := (d4 e hen).2.2
              have ek : M3.1 53 0 (6 * p + k) = wd_t w k 7 := htr3 7 (by omega)
              have mz : nI (ta_dm τ s e) = 0 ↔ ta_dm τ s e = 0 := nI_eq (a := ta_dm τ s e) (b := 0) (by have := (b4 e hen).2.2; omega) (by decide)
              have l6 : 6 * p + k < 48 := by omega
              -- the store
              have st : ∀ (sq : Int64), (wd_t w k 7 = 0 ∨ ta_dm τ s e = 0 ∨ wd_t w k 7 = nI (ta_dm τ s e)) → sq.toInt32 = ck_tl (tk_toll τ (wd_t w k) s e) → ∀ z6 z7 z8 z9 z11 z12, X d 97 114 [some (.inr (.inl (28, 0))), some (.inl (nI p)), some (.inl (nI s)), some (.inl (nI e)), some (.inl (nI k)), some (.inl (nI (6 * p + k))), z6, z7, z8, z9, some (.inr (.inr (sq))), z11, z12] [] M3 Q := by
                intro sq hm hsq z6 z7 z8 z9 z11 z12
                refine am_go hX [124] 60 ?_
                refine ⟨8 * e + k, by show 8 * e + k < 32; omega, ix8 k, ?_⟩
                refine nxt (am_si M3 55 0 (8 * e + k) sq.toInt32) (am_fr_si fr3 (by simp)) (fun j hj => ?_) ?_ _ _ _ _ _ _ _ _
                · rw [am_si_at, if_neg (fun z => hj z.2.2)]; exact sm3 j hj
                · rw [am_si_at, if_pos ⟨rfl, rfl, rfl⟩, mj_v, if_pos (by omega), if_pos hkn]; exact hsq
              refine ⟨fun (q : 0 < lg_cmp (((ta_rx τ s e).toInt64 - vx) * ((ta_rx τ s e).toInt64 - vx) + ((ta_ry τ s e).toInt64 - vy) * ((ta_ry τ s e).toInt64 - vy)) ((M3.1 41 0 0).toInt64 * (M3.1 41 0 0).toInt64)) => ?_, fun (q : ¬ 0 < lg_cmp (((ta_rx τ s e).toInt64 - vx) * ((ta_rx τ s e).toInt64 - vx) + ((ta_ry τ s e).toInt64 - vy) * ((ta_ry τ s e).toInt64 - vy)) ((M3.1 41 0 0).toInt64 * (M3.1 41 0 0).toInt64)) => ?_⟩
              · rw [if_pos q] at hck
                refine nxt M3 fr3 sm3 ?_ _ _ _ _ _ _ _ _
                rw [at3, mj_v, if_pos (by omega), if_pos hkn]
                unfold tk_toll
                by_cases z : tk_sq τ (wd_t w k) s e ≤ ta_ru τ 0 * ta_ru τ 0
                · rw [if_pos z] at hck
                  exact absurd hck.symm (ck_tl_m (by have := Nat.mul_le_mul hgate hgate; omega))
                · rw [if_neg (fun y => z y.2.2)]; rfl
              · rw [if_neg q] at hck
                have hsq : tk_sq τ (wd_t w k) s e ≤ ta_ru τ 0 * ta_ru τ 0 := by
                  rw [lg_cmp_gt, Int64.lt_iff_toInt_lt, gg] at q
                  have sx := iz_sq (a := (ta_rx τ s e).toInt - tk_f τ (wd_t w k) (ta_mo τ s) 0) (b := 2100000) (by omega) (by omega)
                  have sy := iz_sq (a := (ta_ry τ s e).toInt - tk_f τ (wd_t w k) (ta_mo τ s) 1) (b := 2100000) (by omega) (by omega)
                  have ex : (((ta_rx τ s e).toInt64 - vx) * ((ta_rx τ s e).toInt64 - vx)).toInt = ((ta_rx τ s e).toInt - tk_f τ (wd_t w k) (ta_mo τ s) 0) * ((ta_rx τ s e).toInt - tk_f τ (wd_t w k) (ta_mo τ s) 0) := by rw [lz_mul (by rw [fx]; omega) (by rw [fx]; omega), fx]
                  have ey : (((ta_ry τ s e).toInt64 - vy) * ((ta_ry τ s e).toInt64 - vy)).toInt = ((ta_ry τ s e).toInt - tk_f τ (wd_t w k) (ta_mo τ s) 1) * ((ta_ry τ s e).toInt - tk_f τ (wd_t w k) (ta_mo τ s) 1) := by rw [lz_mul (by rw [fy]; omega) (by rw [fy]; omega), fy]
                  rw [lz_add (by rw [ex, ey]; omega) (by rw [ex, ey]; omega), ex, ey] at q
                  unfold tk_sq
                  omega
                rw [if_pos hsq] at hck
                have toll : (wd_t w k 7 = 0 ∨ ta_dm τ s e = 0 ∨ wd_t w k 7 = nI (ta_dm τ s e)) → nI (tk_sq τ (wd_t w k) s e) = ck_tl (tk_toll τ (wd_t w k) s e) := by
                  intro hm; unfold tk_toll; rw [if_pos ⟨q8, hm, hsq⟩]; rfl
                refine ⟨fun (q1 : M3.1 36 0 (4 * s + e) = 0) => ?_, fun (q1 : ¬ M3.1 36 0 (4 * s + e) = 0) => ?_⟩
                · rw [em] at q1
                  have hm : wd_t w k 7 = 0 ∨ ta_dm τ s e = 0 ∨ wd_t w k 7 = nI (ta_dm τ s e) := Or.inr (Or.inl (mz.mp q1))
                  exact st _ hm (hck.trans (toll hm)) _ _ _ _ _ _
                · rw [em] at q1
                  refine ⟨6 * p + k, l6, rfl, fun (q2 : M3.1 53 0 (6 * p + k) = 0) => ?_, fun (q2 : ¬ M3.1 53 0 (6 * p + k) = 0) => ?_⟩
                  · rw [ek] at q2
                    exact st _ (Or.inl q2) (hck.trans (toll (Or.inl q2))) _ _ _ _ _ _
                  · rw [ek] at q2
                    refine ⟨6 * p + k, l6, rfl, fun (q3 : ¬ M3.1 36 0 (4 * s + e) = M3.1 53 0 (6 * p + k)) => ?_, fun (q3 : ¬ ¬ M3.1 36 0 (4 * s + e) = M3.1 53 0 (6 * p + k)) => ?_⟩
                    · rw [em, ek] at q3
                      refine nxt M3 fr3 sm3 ?_ _ _ _ _ _ _ _ _
                      rw [at3, mj_v, if_pos (by omega), if_pos hkn]
                      unfold tk_toll
                      rw [if_neg (fun y => y.2.1.elim q2 (fun z => z.elim (fun z => q1 (mz.mpr z)) (fun z => q3 z.symm)))]; rfl
                    · have q3 := Classical.not_not.mp q3
                      rw [em, ek] at q3
                      have hm : wd_t w k 7 = 0 ∨ ta_dm τ s e = 0 ∨ wd_t w k 7 = nI (ta_dm τ s e) := Or.inr (Or.inr q3.symm)
                      exact st _ hm (hck.trans (toll hm)) _ _ _ _ _ _
            · refine nxt _ fr3 sm3 ?_ _ _ _ _ _ _ _ _
              rw [at3, mj_v, if_pos (by omega), if_pos hkn]
              unfold tk_toll
              rw [if_neg (fun y => q8 (r8.trans y.1))]; rfl
      refine am_go hX [10] 40 ?_
      refine ⟨s, by show s < 12; omega, rfl, fun (q : M'.1 33 0 s ≤ nI e) => absurd q (by rw [e3]; exact nI_ge hen (by omega)), fun _ => ?_⟩
      exact inner 6 0 (by omega) M' fr hdone (fun k' hk' => by omega) _ _ _ _ _ _ _ _
  exact outer (ta_dn τ s) 0 (by omega) M (am_fr_rf _ M) (fun e' k he' => by omega) _ _ _ _ _ _ _ _ _
