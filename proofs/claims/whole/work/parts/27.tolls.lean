/-! what was told, as the class's cells hold it; a world's cells; tolls -/
def rc_T (M : am_M) (τ : ta) : Prop :=
  M.1 1 0 2 = nI (ta_n τ) ∧ (∀ w, w < 3 → M.1 2 0 w = ta_sa τ w ∧ M.1 3 0 w = ta_sb τ w) ∧ (∀ i, i < 13 → M.2.1 4 i < 13) ∧ (∀ i j, i < 13 → j < 13 → M.2.1 4 i = M.2.1 4 j → i = j) ∧
  (∀ s, s < ta_n τ → M.1 18 (M.2.1 4 s) 0 = nI (ta_wt τ s) ∧ M.1 18 (M.2.1 4 s) 1 = nI (ta_mo τ s) ∧ M.1 18 (M.2.1 4 s) 2 = nI (ta_dn τ s) ∧ ∀ e, e < ta_dn τ s → M.1 19 (M.2.1 4 s) e = ta_dx τ s e ∧ M.1 20 (M.2.1 4 s) e = ta_dy τ s e ∧ M.1 21 (M.2.1 4 s) e = nI (ta_dm τ s e)) ∧
  (∀ k, k < 10 → M.1 7 0 k = nI (ta_kd τ k)) ∧ ∀ k, k < 6 → M.1 6 0 k = nI (ta_ru τ k)
theorem rc_T_fr {M M' : am_M} {L LV : List Nat} {τ : ta} (h : rc_T M τ) (fr : am_fg L LV M M') (hL : ∀ f ∈ [1, 2, 3, 6, 7, 18, 19, 20, 21], f ∉ L) (hV : 4 ∉ LV) : rc_T M' τ := by
  obtain ⟨h1, h2, h3, h4, h5, h6, h7⟩ := h
  have fv : ∀ i, M'.2.1 4 i = M.2.1 4 i := fun i => fr.2.1 4 i hV
  have f : ∀ g, g ∈ [1, 2, 3, 6, 7, 18, 19, 20, 21] → ∀ i k, M'.1 g i k = M.1 g i k := fun g hg i k => fr.2.2 g i k (hL g hg)
  refine ⟨(f 1 (by simp) _ _).trans h1, fun w hw => ⟨(f 2 (by simp) _ _).trans (h2 w hw).1, (f 3 (by simp) _ _).trans (h2 w hw).2⟩, fun i hi => by rw [fv]; exact h3 i hi, fun i j hi hj q => by rw [fv, fv] at q; exact h4 i j hi hj q, fun s hs => ?_, fun k hk => (f 7 (by simp) _ _).trans (h6 k hk), fun k hk => (f 6 (by simp) _ _).trans (h7 k hk)⟩
  obtain ⟨a1, a2, a3, a4⟩ := h5 s hs
  rw [fv]
  exact ⟨(f 18 (by simp) _ _).trans a1, (f 18 (by simp) _ _).trans a2, (f 18 (by simp) _ _).trans a3, fun e he => ⟨(f 19 (by simp) _ _).trans (a4 e he).1, (f 20 (by simp) _ _).trans (a4 e he).2.1, (f 21 (by simp) _ _).trans (a4 e he).2.2⟩⟩
def rc_W (M : am_M) (τ : ta) (P : Nat → Prop) (p : Nat) (w : wd) : Prop :=
  M.1 24 p 0 = nI (wd_c w) ∧ M.1 24 p 1 = nI (wd_n w) ∧ (∀ k, k < wd_n w → ∀ j, j < 9 → M.1 27 (6 * p + k) j = wd_t w k j) ∧ ∀ s e, P s → e < ta_dn τ s → M.1 26 p (4 * s + e) = wd_a w s e
theorem rc_W_fr {M M' : am_M} {L LV : List Nat} {τ : ta} {P : Nat → Prop} {p : Nat} {w : wd} (h : rc_W M τ P p w) (fr : am_fg L LV M M') (hL : ∀ f ∈ [24, 26, 27], f ∉ L) : rc_W M' τ P p w := by
  obtain ⟨h1, h2, h3, h4⟩ := h
  have f : ∀ g, g ∈ [24, 26, 27] → ∀ i k, M'.1 g i k = M.1 g i k := fun g hg i k => fr.2.2 g i k (hL g hg)
  exact ⟨(f 24 (by simp) _ _).trans h1, (f 24 (by simp) _ _).trans h2, fun k hk j hj => (f 27 (by simp) _ _).trans (h3 k hk j hj), fun s e hs he => (f 26 (by simp) _ _).trans (h4 s e hs he)⟩
def wd_ok (m : Nat) (w : wd) : Prop := wd_n w ≤ 6 ∧ wd_c w ≤ 1600000 * m ∧ ∀ k, k < wd_n w → tk_ok (wd_t w k)
theorem ta_rx_bd {τ : ta} (hτ : ta_ok τ) {s e : Nat} (hs : s < ta_n τ) (he : e < ta_dn τ s) : ta_in (ta_rx τ s e) 1050 ∧ ta_in (ta_ry τ s e) 1050 := by
  obtain ⟨-, h2, h3, -⟩ := hτ
  obtain ⟨a1, -, -, a4⟩ := h3 s hs
  obtain ⟨b1, b2, -⟩ := a4 e he
  obtain ⟨c1, c2⟩ := h2 _ a1
  unfold ta_in at *
  constructor
  · unfold ta_rx; rw [iz_add (by omega) (by omega)]; omega
  · unfold ta_ry; rw [iz_add (by omega) (by omega)]; omega
/-- a toll in ints -/
def ck_tl (o : Option Nat) : Int32 := match o with
  | none => -1
  | some t => nI t
set_option maxHeartbeats 1000000 in
theorem cw_setTolls {X : am_X} (hX : am_Cl X) (d : Nat) (M : am_M) (hd : 2 ≤ d) (τ : ta) (hτ : ta_ok τ) (hT : rc_T M τ) (s p : Nat) (hs : s < ta_n τ) (hp : p < 8) (P : Nat → Prop) (w : wd) (hW : rc_W M τ P p w) (m0 : Nat) (hw : wd_ok m0 w) (h6 : M.1 10 0 6 = nI (wd_n w)) (h7 : M.1 10 0 7 = nI (ta_dn τ s)) (hg : M.2.2.toInt = (ta_ru τ 0 * ta_ru τ 0 : Nat)) (Q : am_P)
    (h : ∀ M', am_fr [13] M M' → (∀ k e, k < wd_n w → e < ta_dn τ s → M'.1 13 0 (4 * k + e) = ck_tl (tk_toll τ (wd_t w k) s e)) → Q none M') : X d 50 0 [some (.inr (.inl (10, 0))), some (.inr (.inl (24, p))), some (.inr (.inl (1, 0))), some (.inl (nI s)), none, none, none, none, none, none, none, none] [] M Q := by
  obtain ⟨r1, r2, r3, r4, r5, r6, r7⟩ := id hT
  obtain ⟨q1, q2, q3, -, -⟩ := id hτ
  obtain ⟨sw, sm, sd, se⟩ := r5 s hs
  obtain ⟨b1, b2, b3, b4⟩ := q3 s hs
  obtain ⟨w1, w2, w3, -⟩ := hW
  obtain ⟨o1, o2, o3⟩ := hw
  have hgate : ta_ru τ 0 ≤ 500 := hτ.2.2.2.2.1
  have hkd := hτ.2.2.2.1
  refine am_go hX [7] 40 ?_
  refine ⟨s, by show s < 13; omega, rfl, ?_⟩
  have outer : ∀ t k : Nat, k + t = wd_n w → ∀ M' : am_M, am_fr [13] M M' → (∀ k' e, k' < k → e < ta_dn τ s → M'.1 13 0 (4 * k' + e) = ck_tl (tk_toll τ (wd_t w k') s e)) → ∀ z6 z7 z8 z9 z10 z11, X d 50 7 [some (.inr (.inl (10, 0))), some (.inr (.inl (24, p))), some (.inr (.inl (1, 0))), some (.inl (nI s)), some (.inr (.inl (18, M.2.1 4 s))), some (.inl (nI k)), z6, z7, z8, z9, z10, z11] [] M' Q := by
    intro t
    induction t with
    | zero =>
      intro k hk M' fr hdone z6 z7 z8 z9 z10 z11
      have hk : k = wd_n w := by omega
      subst hk
      have e6 : M'.1 10 0 6 = nI (wd_n w) := (fr.2 10 0 6 (by simp)).trans h6
      refine am_go hX [7] 40 ?_
      exact ⟨fun _ => h M' fr hdone, fun (q : ¬ M'.1 10 0 6 ≤ nI (wd_n w)) => absurd (by rw [e6]; exact nI_le (Nat.le_refl _) (by omega)) q⟩
    | succ t ih =>
      intro k hk M' fr hdone z6 z7 z8 z9 z10 z11
      have hkn : k < wd_n w := by omega
      have e6 : M'.1 10 0 6 = nI (wd_n w) := (fr.2 10 0 6 (by simp)).trans h6
      have htr : ∀ j, j < 9 → M'.1 27 (6 * p + k) j = wd_t w k j := fun j hj => (fr.2 27 _ j (by simp)).trans (w3 k hkn j hj)
      have hV : M'.2 = M.2 := fr.1
      have hok := o3 k hkn
      have h7t : (wd_t w k 7).toNatClampNeg < 10 := by
        have := hok.2.2.2.2.2.1
        have e : (wd_t w k 7).toNatClampNeg = (wd_t w k 7).toInt.toNat := rfl
        omega
      have e7t : wd_t w k 7 = nI (wd_t w k 7).toNatClampNeg := by
        apply iz_nI
        · have := hok.2.2.2.2.2.1
          have e : (wd_t w k 7).toNatClampNeg = (wd_t w k 7).toInt.toNat := rfl
          omega
        · omega
      have ekd : M'.1 7 0 (wd_t w k 7).toNatClampNeg = nI (ta_kd τ (wd_t w k 7).toNatClampNeg) := (fr.2 7 0 _ (by simp)).trans (r6 _ h7t)
      have emo : M'.1 18 (M.2.1 4 s) 1 = nI (ta_mo τ s) := (fr.2 18 _ 1 (by simp)).trans sm
      refine am_go hX [7, 36] 60 ?_
      refine ⟨fun (q : M'.1 10 0 6 ≤ nI k) => absurd q (by rw [e6]; exact nI_ge hkn (by omega)), fun _ => ?_⟩
      refine ⟨k, by show k < 6; omega, rfl, ?_⟩
      refine ⟨(wd_t w k 7).toNatClampNeg, h7t, (htr 7 (by omega)).trans e7t, ?_⟩
      refine am_cc (by omega) (cw_foretoldX hX _ _ (by omega) _ _ _ _ ?_)
      refine am_cc (by omega) (cw_foretoldY hX _ _ (by omega) _ _ _ _ ?_)
      have hmo : (nI (ta_mo τ s)).toInt = (ta_mo τ s : Int) := nI_toInt (by omega)
      have efx0 : (M'.1 27 (6 * p + k) 0 + ck_ah (M'.1 7 0 (wd_t w k 7).toNatClampNeg) (M'.1 18 (M.2.1 4 s) 1) (M'.1 27 (6 * p + k) 4) * M'.1 27 (6 * p + k) 2).toInt = tk_f τ (wd_t w k) (ta_mo τ s) 0 := by
        rw [htr 0 (by omega), htr 4 (by omega), htr 2 (by omega), ekd, emo, ← hmo]
        exact ck_f_ok hok hkd (by rw [hmo]; omega) (by rw [hmo]; omega) (Or.inl rfl)
      have efy0 : (M'.1 27 (6 * p + k) 1 + ck_ah (M'.1 7 0 (wd_t w k 7).toNatClampNeg) (M'.1 18 (M.2.1 4 s) 1) (M'.1 27 (6 * p + k) 4) * M'.1 27 (6 * p + k) 3).toInt = tk_f τ (wd_t w k) (ta_mo τ s) 1 := by
        rw [htr 1 (by omega), htr 4 (by omega), htr 3 (by omega), ekd, emo, ← hmo]
        exact ck_f_ok hok hkd (by rw [hmo]; omega) (by rw [hmo]; omega) (Or.inr rfl)
      have bfx := tk_f_bd (τ := τ) hok (show (0 : Int) ≤ ta_mo τ s by omega) (by omega) (c := 0) (Or.inl rfl)
      have bfy := tk_f_bd (τ := τ) hok (show (0 : Int) ≤ ta_mo τ s by omega) (by omega) (c := 1) (Or.inr rfl)
      have inner : ∀ fx fy : Int32, fx.toInt = tk_f τ (wd_t w k) (ta_mo τ s) 0 → fy.toInt = tk_f τ (wd_t w k) (ta_mo τ s) 1 → ∀ t2 e : Nat, e + t2 = ta_dn τ s → ∀ M2 : am_M, am_fr [13] M M2 → (∀ k' e', k' < k → e' < ta_dn τ s → M2.1 13 0 (4 * k' + e') = ck_tl (tk_toll τ (wd_t w k') s e')) → (∀ e', e' < e → M2.1 13 0 (4 * k + e') = ck_tl (tk_toll τ (wd_t w k) s e')) → ∀ z7 z11, X d 50 36 [some (.inr (.inl (10, 0))), some (.inr (.inl (24, p))), some (.inr (.inl (1, 0))), some (.inl (nI s)), some (.inr (.inl (18, M.2.1 4 s))), some (.inl (nI k)), some (.inr (.inl (27, 6 * p + k))), z7, some (.inl (fx)), some (.inl (fy)), some (.inl (nI e)), z11] [] M2 Q := by
        intro fx fy efx efy t2
        induction t2 with
        | zero =>
          intro e he M2 fr2 hd1 hd2 z7 z11
          have he : e = ta_dn τ s := by omega
          subst he
          have e7 : M2.1 10 0 7 = nI (ta_dn τ s) := (fr2.2 10 0 7 (by simp)).trans h7
          refine am_go hX [7] 60 ?_
          refine ⟨fun _ => ?_, fun (q : ¬ M2.1 10 0 7 ≤ nI (ta_dn τ s)) => absurd (by rw [e7]; exact nI_le (Nat.le_refl _) (by omega)) q⟩
          refine (fun (z : X d 50 7 [some (.inr (.inl (10, 0))), some (.inr (.inl (24, p))), some (.inr (.inl (1, 0))), some (.inl (nI s)), some (.inr (.inl (18, M.2.1 4 s))), some (.inl (nI k + 1)), some (.inr (.inl (27, 6 * p + k))), z7, some (.inl (fx)), some (.inl (fy)), some (.inl (nI (ta_dn τ s))), z11] [] M2 Q) => z) ?_
          rw [nI_1]
          refine ih (k + 1) (by omega) M2 fr2 (fun k' e' hk' he' => ?_) _ _ _ _ _ _
          by_cases z : k' = k
          · subst z; exact hd2 e' he'
          · exact hd1 k' e' (by omega) he'
        | succ t2 ih2 =>
          intro e he M2 fr2 hd1 hd2 z7 z11
          have hen : e < ta_dn τ s := by omega
          have e7 : M2.1 10 0 7 = nI (ta_dn τ s) := (fr2.2 10 0 7 (by simp)).trans h7
          have htr2 : ∀ j, j < 9 → M2.1 27 (6 * p + k) j = wd_t w k j := fun j hj => (fr2.2 27 _ j (by simp)).trans (w3 k hkn j hj)
          have hV2 : M2.2 = M.2 := fr2.1
          have emk : M2.1 21 (M.2.1 4 s) e = nI (ta_dm τ s e) := (fr2.2 21 _ e (by simp)).trans (se e hen).2.2
          have ewt : M2.1 18 (M2.2.1 4 s) 0 = nI (ta_wt τ s) := by rw [hV2]; exact (fr2.2 18 _ 0 (by simp)).trans sw
          have ex : M2.1 19 (M2.2.1 4 s) e + M2.1 2 0 (ta_wt τ s) = ta_rx τ s e := by
            rw [hV2, fr2.2 19 _ e (by simp), fr2.2 2 _ _ (by simp), (se e hen).1, (r2 _ b1).1]; rfl
          have ey : M2.1 20 (M2.2.1 4 s) e + M2.1 3 0 (ta_wt τ s) = ta_ry τ s e := by
            rw [hV2, fr2.2 20 _ e (by simp), fr2.2 3 _ _ (by simp), (se e hen).2.1, (r2 _ b1).2]; rfl
          obtain ⟨bx, by_⟩ := ta_rx_bd hτ hs hen
          unfold ta_in at bx by_
          have ix : 4 * nI k + nI e = nI (4 * k + e) := by rw [show (4 : Int32) = nI 4 from rfl, pk_mul, nI_add]
          have mz : nI (ta_dm τ s e) = 0 ↔ ta_dm τ s e = 0 := nI_eq (a := ta_dm τ s e) (b := 0) (by have := (b4 e hen).2.2; omega) (by decide)
          -- behind the store
          have nxt : ∀ v : Int32, v = ck_tl (tk_toll τ (wd_t w k) s e) → ∀ z11, X d 50 36 [some (.inr (.inl (10, 0))), some (.inr (.inl (24, p))), some (.inr (.inl (1, 0))), some (.inl (nI s)), some (.inr (.inl (18, M.2.1 4 s))), some (.inl (nI k)), some (.inr (.inl (27, 6 * p + k))), z7, some (.inl (fx)), some (.inl (fy)), some (.inl (nI e + 1)), z11] [] (am_si M2 13 0 (4 * k + e) v) Q := by
            intro v hv z11
            rw [nI_1]
            refine ih2 (e + 1) (by omega) _ (am_fr_si fr2 (by simp)) (fun k' e' hk' he' => ?_) (fun e' he' => ?_) _ _
            · rw [am_si_at, if_neg (by omega)]; exact hd1 k' e' hk' he'
            · rw [am_si_at]
              by_cases z : e' = e
              · subst z; rw [if_pos ⟨rfl, rfl, rfl⟩]; exact hv
              · rw [if_neg (by omega)]; exact hd2 e' (by omega)
          have closed : ¬ (wd_t w k 8 = 0 ∧ (wd_t w k 7 = 0 ∨ ta_dm τ s e = 0 ∨ wd_t w k 7 = nI (ta_dm τ s e))) → X d 50 53 [some (.inr (.inl (10, 0))), some (.inr (.inl (24, p))), some (.inr (.inl (1, 0))), some (.inl (nI s)), some (.inr (.inl (18, M.2.1 4 s))), some (.inl (nI k)), some (.inr (.inl (27, 6 * p + k))), z7, some (.inl (fx)), some (.inl (fy)), some (.inl (nI e)), z11] [.inl 0] M2 Q := by
            intro hc
            refine am_go hX [36] 60 ?_
            refine am_beq0 ⟨4 * k + e, by show 4 * k + e < 24; omega, ix, ?_⟩
            refine nxt (-1) ?_ _
            unfold tk_toll
            rw [if_neg (fun q => hc ⟨q.1, q.2.1⟩)]; rfl
          refine am_go hX [36, 53] 60 ?_
          refine ⟨fun (q : M2.1 10 0 7 ≤ nI e) => absurd q (by rw [e7]; exact nI_ge hen (by omega)), fun _ => ?_⟩
          refine ⟨fun (q : ¬ M2.1 27 (6 * p + k) 8 = 0) => closed (fun z => q ((htr2 8 (by omega)).trans z.1)), fun (q : ¬ ¬ M2.1 27 (6 * p + k) 8 = 0) => ?_⟩
          have q8 : wd_t w k 8 = 0 := (htr2 8 (by omega)).symm.trans (Classical.not_not.mp q)
          refine ⟨e, by show e < 4; omega, rfl, am_cc (by omega) (cw_mayBear hX _ _ _ _ _ (fun hm => ?_) (fun hm => ?_))⟩
          · refine am_beq1 ?_
            have hm : wd_t w k 7 = 0 ∨ ta_dm τ s e = 0 ∨ wd_t w k 7 = nI (ta_dm τ s e) := by
              have hm : M2.1 27 (6 * p + k) 7 = 0 ∨ M2.1 21 (M.2.1 4 s) e = 0 ∨ M2.1 27 (6 * p + k) 7 = M2.1 21 (M.2.1 4 s) e := hm
              rw [htr2 7 (by omega), emk, mz] at hm; exact hm
            refine (fun (z : X d 50 53 [some (.inr (.inl (10, 0))), some (.inr (.inl (24, p))), some (.inr (.inl (1, 0))), some (.inl (nI s)), some (.inr (.inl (18, M.2.1 4 s))), some (.inl (nI k)), some (.inr (.inl (27, 6 * p + k))), z7, some (.inl (fx)), some (.inl (fy)), some (.inl (nI e)), z11] [.inl 1] M2 Q) => z) ?_
            refine am_go hX [36] 60 ?_
            refine am_beq1 (am_cc (by omega) (cw_rightX hX _ _ s e (ta_wt τ s) (by omega) (by omega) b1 ewt _ ?_))
            rw [ex]
            refine am_cc (by omega) (cw_rightY hX _ _ s e (ta_wt τ s) (by omega) (by omega) b1 ewt _ ?_)
            rw [ey]
            refine am_cc (by omega) (cw_toll hX _ _ _ _ _ ?_)
            refine ⟨4 * k + e, by show 4 * k + e < 24; omega, ix, ?_⟩
            refine nxt _ ?_ _
            have dxe : (ta_rx τ s e - fx).toInt = (ta_rx τ s e).toInt - tk_f τ (wd_t w k) (ta_mo τ s) 0 := by rw [iz_sub (by rw [efx]; omega) (by rw [efx]; omega), efx]
            have dye : (ta_ry τ s e - fy).toInt = (ta_ry τ s e).toInt - tk_f τ (wd_t w k) (ta_mo τ s) 1 := by rw [iz_sub (by rw [efy]; omega) (by rw [efy]; omega), efy]
            have hck : _ = if tk_sq τ (wd_t w k) s e ≤ ta_ru τ 0 * ta_ru τ 0 then nI (tk_sq τ (wd_t w k) s e) else -1 := ck_toll_ok (g := M2.2.2) (dx := (ta_rx τ s e - fx).toInt64) (dy := (ta_ry τ s e - fy).toInt64) (gate := ta_ru τ 0) (by rw [hV2]; exact hg) hgate ((lz_of _).trans dxe) ((lz_of _).trans dye) (by omega) (by omega)
            rw [hck]
            unfold tk_toll
            by_cases z : tk_sq τ (wd_t w k) s e ≤ ta_ru τ 0 * ta_ru τ 0
            · rw [if_pos z, if_pos ⟨q8, hm, z⟩]; rfl
            · rw [if_neg z, if_neg (fun y => z y.2.2)]; rfl
          · refine am_beq0 ?_
            refine closed (fun z => hm ?_)
            show M2.1 27 (6 * p + k) 7 = 0 ∨ M2.1 21 (M.2.1 4 s) e = 0 ∨ M2.1 27 (6 * p + k) 7 = M2.1 21 (M.2.1 4 s) e
            rw [htr2 7 (by omega), emk, mz]; exact z.2
      exact inner _ _ efx0 efy0 (ta_dn τ s) 0 (by omega) M' fr hdone (fun e' he' => by omega) _ _
  exact outer (wd_n w) 0 (by omega) M (am_fr_rf _ M) (fun k' e hk' => by omega) _ _ _ _ _ _
