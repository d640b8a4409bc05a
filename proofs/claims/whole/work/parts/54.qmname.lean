/-! foretell, name, sure, alive: the reference -/
theorem lz_of32 {v : Int64} {z : Int} (h : v.toInt = z) : v.toInt32 = Int32.ofInt z := by
  apply iz_ext
  rw [Int64.toInt_toInt32, h, Int32.toInt_ofInt]
theorem cm_foretell {X : am_X} (hX : am_Cl X) (d : Nat) (M : am_M) (hd : 7 ≤ d) (τ : ta) (hτ : ta_ok τ) (hC : mC M τ) (w t m u : Int32) (Q : am_P) (h : ∀ M', rm_F M M' → mC M' τ → Q (some (.inl (q_foretell τ w t m u))) M') : X d 117 0 [some (.inr (.inl (28, 0))), some (.inl (w)), some (.inl (t)), some (.inl (m)), some (.inl (u))] [] M Q := by
  have hl := (wds_ok hτ).2.1
  refine am_go hX [] 60 ?_
  refine am_cc (by omega) (cm_isTrack hX _ _ (by omega) τ hτ hC w t _ (fun M' F R a c a1 c1 a2 c2 a3 c3 => am_beq1 (am_cc (by omega) ?_)) (fun M' F R z => am_beq0 ?_))
  · obtain ⟨b, hb, e19, hW⟩ := mR_W R
    have h6 := ((wds_ok hτ).2.2 a a1).1
    have hok := ((wds_ok hτ).2.2 a a1).2.2 c c1
    have := h M' F (mR_C R)
    unfold q_foretell at this
    rw [q_tr_at a3 c3] at this
    have hr : ∀ j, j < 9 → M'.1 (46 + j) 0 (6 * (b + a) + c) = wd_t (am_nth (wds τ) a wd_0) c j := (hW a a1).2.2.1 c c1
    generalize wd_t (am_nth (wds τ) a wd_0) c = r at this hok hr
    have pt : 6 * (b + a) + c < 48 := by omega
    have eix : 6 * (M'.1 28 0 19 + w) + t = nI (6 * (b + a) + c) := by rw [a2, c2, mq_ix6 e19]
    refine cm_in hX _ _ _ _ _ _ (fun u1 u2 => am_beq1 ?_) (fun z => am_beq0 ?_)
    · refine ⟨6 * (b + a) + c, pt, eix, am_cc (by omega) ?_⟩
      refine (fun (z : X (d - 1) 82 0 [some (.inr (.inl (28, 0))), some (.inl (m)), some (.inl (M'.1 50 0 (6 * (b + a) + c))), some (.inl (999))] [] M' _) => z) ?_
      rw [hr 4 (by omega)]
      refine cm_in hX _ _ _ _ _ _ (fun m1 m2 => am_bne1 ?_) (fun z => am_bne0 ?_)
      · rw [if_pos ⟨⟨u1, u2⟩, m1, m2⟩] at this
        have t4 := hok.2.2.2.2.1
        have mm1 := Int32.le_iff_toInt_le.mp m1
        have mm2 := Int32.le_iff_toInt_le.mp m2
        rw [show (999 : Int32).toInt = 999 by decide] at mm2
        have fin : ∀ g, g = 0 ∨ g = 1 → ∀ Q' : am_P, (∀ v : Int64, v.toInt32 = Int32.ofInt (tk_f τ r m.toInt g) → Q' (some (.inr (.inr (v)))) M') → X (d - 1) 96 0 [some (.inr (.inl (28, 0))), some (.inl (6 * (M'.1 28 0 19 + w) + t)), some (.inl (m)), some (.inl (nI g)), none, none, none, none, none, none, none] [] M' Q' := by
          intro g hg Q' hQ'
          rw [eix]
          exact cm_foretold hX _ _ τ hτ.2.2.2.1 R.1.2.2.2.1 _ pt r hr hok m (by omega) mm2 g hg _ (fun v hv => hQ' v (lz_of32 hv))
        refine ⟨fun (q : ¬ u = 1) => am_cc (by omega) ?_, fun (q : ¬ ¬ u = 1) => am_cc (by omega) ?_⟩
        · have u0 : u = 0 := by
            have z1 := Int32.le_iff_toInt_le.mp u1
            have z2 := Int32.le_iff_toInt_le.mp u2
            rw [show (0 : Int32).toInt = 0 by decide] at z1
            rw [show (1 : Int32).toInt = 1 by decide] at z2
            have z3 : u.toInt ≠ 1 := fun z => q (iz_ext (z.trans (by decide)))
            exact iz_ext ((by omega : u.toInt = 0).trans (by decide))
          rw [if_pos u0] at this
          exact fin 0 (Or.inl rfl) _ (fun v hv => by rw [← hv] at this; exact this)
        · have u1 : ¬ u = 0 := by rw [Classical.not_not.mp q]; decide
          rw [if_neg u1] at this
          exact fin 1 (Or.inr rfl) _ (fun v hv => by rw [← hv] at this; exact this)
      · rw [if_neg (fun q => z q.2)] at this; exact this
    · rw [if_neg (fun q => z q.1)] at this; exact this
  · have := h M' F (mR_C R)
    unfold q_foretell at this
    rw [q_tr_no z] at this; exact this
set_option maxHeartbeats 1000000 in
theorem cm_name {X : am_X} (hX : am_Cl X) (d : Nat) (M : am_M) (hd : 5 ≤ d) (τ : ta) (hτ : ta_ok τ) (hC : mC M τ) (m : Int32) (Q : am_P) (h : ∀ M', rm_F M M' → mC M' τ → Q (some (.inl (q_name τ m))) M') : X d 119 0 [some (.inr (.inl (28, 0))), some (.inl (m)), none, none, none] [] M Q := by
  have hl := wds_ok hτ
  refine am_go hX [12] 60 ?_
  refine am_cc (by omega) (cm_fresh hX _ _ (by omega) τ hτ hC _ (fun M' F R => am_cc (by omega) ?_))
  have := h M' F (mR_C R)
  unfold q_name at this
  obtain ⟨b, hb, e19, hW⟩ := mR_W R
  have e18 : M'.1 28 0 18 = nI (wds τ).length := R.2.2.2.1
  refine cm_in hX _ _ _ _ _ _ (fun m1 m2 => am_bne1 ?_) (fun z => am_bne0 ?_)
  · rw [if_pos ⟨m1, m2⟩] at this
    have inner : ∀ k, k < 6 → (nm_all τ m k → X d 119 53 [some (.inr (.inl (28, 0))), some (.inl (m)), some (.inl (nI k)), some (.inl (1)), some (.inl (nI (wds τ).length))] [] M' Q) → (¬ nm_all τ m k → X d 119 53 [some (.inr (.inl (28, 0))), some (.inl (m)), some (.inl (nI k)), some (.inl (0)), some (.inl (nI (wds τ).length))] [] M' Q) →
        ∀ t i : Nat, i + t = (wds τ).length → ∀ y : Int32, (y = 1 ∧ (∀ j, j < i → k < wd_n (wn τ j) ∧ wd_t (wn τ j) k 7 = m)) ∨ (y = 0 ∧ ¬ nm_all τ m k) → X d 119 19 [some (.inr (.inl (28, 0))), some (.inl (m)), some (.inl (nI k)), some (.inl (y)), some (.inl (nI i))] [] M' Q := by
      intro k hk g1 g0 t
      induction t with
      | zero =>
        intro i hi y hy
        have hi : i = (wds τ).length := by omega
        refine am_go hX [53] 30 ?_
        refine ⟨fun _ => ?_, fun (q : ¬ M'.1 28 0 18 ≤ nI i) => absurd (by rw [e18, hi]; exact nI_le (Nat.le_refl _) (by omega)) q⟩
        rcases hy with ⟨rfl, ha⟩ | ⟨rfl, ha⟩
        · rw [hi]; exact g1 (fun j hj => ha j (by omega))
        · rw [hi]; exact g0 ha
      | succ t ih =>
        intro i hi y hy
        have next : ∀ y', (y' = 1 ∧ (∀ j, j < i + 1 → k < wd_n (wn τ j) ∧ wd_t (wn τ j) k 7 = m)) ∨ (y' = 0 ∧ ¬ nm_all τ m k) → X d 119 19 [some (.inr (.inl (28, 0))), some (.inl (m)), some (.inl (nI k)), some (.inl (y')), some (.inl (nI i + 1))] [] M' Q := by
          intro y' hy'
          rw [nI_1]
          exact ih (i + 1) (by omega) y' hy'
        have h6 : wd_n (wn τ i) ≤ 6 := (hl.2.2 i (by omega)).1
        have e44 : M'.1 44 0 (b + i) = nI (wd_n (wn τ i)) := (hW i (by omega)).2.1
        refine am_go hX [19, 53] 60 ?_
        refine ⟨fun (q : M'.1 28 0 18 ≤ nI i) => absurd q (by rw [e18]; exact nI_ge (by omega) (by omega)), fun _ => ?_⟩
        rcases hy with ⟨rfl, ha⟩ | ⟨rfl, ha⟩
        · refine am_beq1 ⟨b + i, by show b + i < 8; omega, by show M'.1 28 0 19 + nI i = _; rw [e19, nI_add], fun (q : M'.1 44 0 (b + i) ≤ nI k) => ?_, fun (q : ¬ M'.1 44 0 (b + i) ≤ nI k) => ?_⟩
          · rw [e44, nI_leI (by omega) (by omega)] at q
            exact next 0 (Or.inr ⟨rfl, fun z => by have := (z i (by omega)).1; omega⟩)
          · rw [e44, nI_leI (by omega) (by omega)] at q
            have e7 : M'.1 53 0 (6 * (b + i) + k) = wd_t (wn τ i) k 7 := (hW i (by omega)).2.2.1 k (by show k < wd_n (wn τ i); omega) 7 (by omega)
            refine ⟨6 * (b + i) + k, by show 6 * (b + i) + k < 48; omega, mq_ix6 e19, fun (q2 : ¬ M'.1 53 0 (6 * (b + i) + k) = m) => ?_, fun (q2 : ¬ ¬ M'.1 53 0 (6 * (b + i) + k) = m) => ?_⟩
            · exact next 0 (Or.inr ⟨rfl, fun z => q2 (e7.trans (z i (by omega)).2)⟩)
            · refine next 1 (Or.inl ⟨rfl, fun j hj => ?_⟩)
              by_cases c : j = i
              · rw [c]; exact ⟨by omega, e7.symm.trans (Classical.not_not.mp q2)⟩
              · exact ha j (by omega)
        · exact am_beq0 (next 0 (Or.inr ⟨rfl, ha⟩))
    have outer : ∀ t k : Nat, k + t = 6 → lst (nm_all τ m) 6 0 = lst (nm_all τ m) (6 - k) k → ∀ y3 y4, X d 119 12 [some (.inr (.inl (28, 0))), some (.inl (m)), some (.inl (nI k)), y3, y4] [] M' Q := by
      intro t
      induction t with
      | zero =>
        intro k hk ha y3 y4
        have hk : k = 6 := by omega
        subst hk
        rw [ha] at this
        refine am_go hX [12, 19] 30 ?_
        exact ⟨fun _ => this, fun (q : ¬ (6 : Int32) ≤ nI 6) => absurd (by decide) q⟩
      | succ t ih =>
        intro k hk ha y3 y4
        have e6 : 6 - k = (6 - (k + 1)) + 1 := by omega
        refine am_go hX [12, 19] 30 ?_
        refine ⟨fun (q : (6 : Int32) ≤ nI k) => absurd q (nI_ge (b := 6) (by omega) (by decide)), fun _ => ?_⟩
        refine inner k (by omega) (fun z => ?_) (fun z => ?_) (wds τ).length 0 (by omega) 1 (Or.inl ⟨rfl, fun j hj => by omega⟩)
        · refine am_go hX [12] 30 ?_
          rw [ha, e6, lst_y z] at this
          exact am_beq1 this
        · refine am_go hX [12] 30 (am_beq0 ?_)
          refine (fun (z : X d 119 12 [some (.inr (.inl (28, 0))), some (.inl (m)), some (.inl (nI k + 1)), some (.inl (0)), some (.inl (nI (wds τ).length))] [] M' Q) => z) ?_
          rw [nI_1]
          refine ih (k + 1) (by omega) ?_ _ _
          rw [ha, e6, lst_n z]
    exact outer 6 0 (by omega) rfl _ _
  · rw [if_neg z] at this; exact this
theorem cm_isSure {X : am_X} (hX : am_Cl X) (d : Nat) (M : am_M) (hd : 1 ≤ d) (τ : ta) (hτ : ta_ok τ) (hR : mR M τ) (s e : Nat) (hs : s < ta_n τ) (he : e < ta_dn τ s) (Q : am_P) (h1 : sr_all τ s e → Q (some (.inl (1))) M) (h0 : ¬ sr_all τ s e → Q (some (.inl (0))) M) : X d 120 0 [some (.inr (.inl (28, 0))), some (.inl (nI s)), some (.inl (nI e)), none, none] [] M Q := by
  have hl := wds_ok hτ
  have e18 : M.1 28 0 18 = nI (wds τ).length := hR.2.2.2.1
  refine am_go hX [4] 20 ?_
  have loop : ∀ t i : Nat, i + t = (wds τ).length → ∀ y : Int32, (y = 1 ∧ ∀ j, j < i → wd_a (wn τ j) s e = wd_a (wn τ 0) s e) ∨ (y = 0 ∧ ¬ sr_all τ s e) → X d 120 4 [some (.inr (.inl (28, 0))), some (.inl (nI s)), some (.inl (nI e)), some (.inl (y)), some (.inl (nI i))] [] M Q := by
    intro t
    induction t with
    | zero =>
      intro i hi y hy
      have hi : i = (wds τ).length := by omega
      refine am_go hX [4] 30 ?_
      refine ⟨fun _ => ?_, fun (q : ¬ M.1 28 0 18 ≤ nI i) => absurd (by rw [e18, hi]; exact nI_le (Nat.le_refl _) (by omega)) q⟩
      rcases hy with ⟨rfl, ha⟩ | ⟨rfl, ha⟩
      · exact ⟨Or.inr rfl, h1 (fun j hj => ha j (by omega))⟩
      · exact ⟨Or.inl rfl, h0 ha⟩
    | succ t ih =>
      intro i hi y hy
      have next : ∀ y', (y' = 1 ∧ ∀ j, j < i + 1 → wd_a (wn τ j) s e = wd_a (wn τ 0) s e) ∨ (y' = 0 ∧ ¬ sr_all τ s e) → X d 120 4 [some (.inr (.inl (28, 0))), some (.inl (nI s)), some (.inl (nI e)), some (.inl (y')), some (.inl (nI i + 1))] [] M Q := by
        intro y' hy'
        rw [nI_1]
        exact ih (i + 1) (by omega) y' hy'
      refine am_go hX [4] 40 ?_
      refine ⟨fun (q : M.1 28 0 18 ≤ nI i) => absurd q (by rw [e18]; exact nI_ge (by omega) (by omega)), fun _ => ?_⟩
      rcases hy with ⟨rfl, ha⟩ | ⟨rfl, ha⟩
      · refine am_beq1 (am_cc hd (cm_accountOf hX _ _ τ hτ hR i s e (by omega) hs he _ (am_cc hd (cm_accountOf hX _ _ τ hτ hR 0 s e (by omega) hs he _ ?_))))
        refine ⟨fun (q : ¬ wd_a (wn τ i) s e = wd_a (wn τ 0) s e) => ?_, fun (q : ¬ ¬ wd_a (wn τ i) s e = wd_a (wn τ 0) s e) => ?_⟩
        · exact next 0 (Or.inr ⟨rfl, fun z => q (z i (by omega))⟩)
        · refine next 1 (Or.inl ⟨rfl, fun j hj => ?_⟩)
          by_cases c : j = i
          · rw [c]; exact Classical.not_not.mp q
          · exact ha j (by omega)
      · exact am_beq0 (next 0 (Or.inr ⟨rfl, ha⟩))
  exact loop ((wds τ).length - 1) 1 (by omega) 1 (Or.inl ⟨rfl, fun j hj => by rw [show j = 0 by omega]⟩)
theorem cm_sure {X : am_X} (hX : am_Cl X) (d : Nat) (M : am_M) (hd : 5 ≤ d) (τ : ta) (hτ : ta_ok τ) (hC : mC M τ) (s e : Int32) (Q : am_P) (h : ∀ M', rm_F M M' → mC M' τ → Q (some (.inl (q_sure τ s e))) M') : X d 121 0 [some (.inr (.inl (28, 0))), some (.inl (s)), some (.inl (e))] [] M Q := by
  refine am_go hX [] 40 ?_
  refine am_cc (by omega) (cm_fresh hX _ _ (by omega) τ hτ hC _ (fun M' F R => am_cc (by omega) ?_))
  have := h M' F (mR_C R)
  unfold q_sure at this
  refine cm_isDot hX _ _ (by omega) τ hτ R.1 s e _ (fun x y x1 y1 x2 y2 x3 y3 => am_beq1 (am_cc (by omega) ?_)) (fun z => am_beq0 ?_)
  · rw [q_dt_at x3 y3] at this
    rw [x2, y2]
    refine cm_isSure hX _ _ (by omega) τ hτ R x y x1 y1 _ (fun z => am_beq1 ?_) (fun z => am_beq0 ?_)
    · rw [pI_y z] at this; exact this
    · rw [pI_n z] at this; exact this
  · rw [q_dt_no z] at this; exact this
set_option maxHeartbeats 1000000 in
theorem cm_alive {X : am_X} (hX : am_Cl X) (d : Nat) (M : am_M) (hd : 6 ≤ d) (τ : ta) (hτ : ta_ok τ) (hC : mC M τ) (w : Int32) (Q : am_P) (h : ∀ M', rm_F M M' → mC M' τ → Q (some (.inl (q_alive τ w))) M') : X d 122 0 [some (.inr (.inl (28, 0))), some (.inl (w)), none, none] [] M Q := by
  have hl := wds_ok hτ
  refine am_go hX [10] 40 ?_
  refine am_cc (by omega) (cm_isWorld hX _ _ (by omega) τ hτ hC w _ (fun M' F R a a1 a2 a3 => am_bne1 ?_) (fun M' F R a3 => am_bne0 ?_))
  · obtain ⟨b, hb, e19, hW⟩ := mR_W R
    have := h M' F (mR_C R)
    unfold q_alive at this
    rw [a3] at this
    have h6 : wd_n (wn τ a) ≤ 6 := (hl.2.2 a a1).1
    have e44 : M'.1 44 0 (b + a) = nI (wd_n (wn τ a)) := (hW a a1).2.1
    have et : ∀ k, k < wd_n (wn τ a) → ∀ j, j < 9 → M'.1 (46 + j) 0 (6 * (b + a) + k) = wd_t (wn τ a) k j := (hW a a1).2.2.1
    have ew : M'.1 28 0 19 + w = nI (b + a) := by rw [e19, a2, nI_add]
    have loop : ∀ r k : Nat, k + r = wd_n (wn τ a) → X d 122 10 [some (.inr (.inl (28, 0))), some (.inl (w)), some (.inl (nI (al_n (wd_t (wn τ a)) k))), some (.inl (nI k))] [] M' Q := by
      intro r
      induction r with
      | zero =>
        intro k hk
        have hk : k = wd_n (wn τ a) := by omega
        rw [hk]
        refine am_go hX [10] 30 ?_
        exact ⟨b + a, by show b + a < 8; omega, ew, fun _ => this, fun (q : ¬ M'.1 44 0 (b + a) ≤ nI (wd_n (wn τ a))) => absurd (by rw [e44]; exact nI_le (Nat.le_refl _) (by omega)) q⟩
      | succ r ih =>
        intro k hk
        have next : ∀ x : Nat, al_n (wd_t (wn τ a)) (k + 1) = al_n (wd_t (wn τ a)) k + x → X d 122 10 [some (.inr (.inl (28, 0))), some (.inl (w)), some (.inl (nI (al_n (wd_t (wn τ a)) k) + nI x)), some (.inl (nI k + 1))] [] M' Q := by
          intro x hx
          rw [nI_1, nI_add, ← hx]
          exact ih (k + 1) (by omega)
        have eix : 6 * (M'.1 28 0 19 + w) + nI k = nI (6 * (b + a) + k) := by rw [a2]; exact mq_ix6 e19
        have e5 : M'.1 51 0 (6 * (b + a) + k) = wd_t (wn τ a) k 5 := et k (by omega) 5 (by omega)
        have e8 : M'.1 54 0 (6 * (b + a) + k) = wd_t (wn τ a) k 8 := et k (by omega) 8 (by omega)
        refine am_go hX [10] 60 ?_
        refine ⟨b + a, by show b + a < 8; omega, ew, fun (q : M'.1 44 0 (b + a) ≤ nI k) => absurd q (by rw [e44]; exact nI_ge (by omega) (by omega)), fun _ => ⟨6 * (b + a) + k, by show 6 * (b + a) + k < 48; omega, eix, fun (q : M'.1 51 0 (6 * (b + a) + k) ≤ 1) => ?_, fun (q : ¬ M'.1 51 0 (6 * (b + a) + k) ≤ 1) => ⟨6 * (b + a) + k, by show 6 * (b + a) + k < 48; omega, eix, fun (q2 : ¬ M'.1 54 0 (6 * (b + a) + k) = 0) => ?_, fun (q2 : ¬ ¬ M'.1 54 0 (6 * (b + a) + k) = 0) => ?_⟩⟩⟩
        · rw [e5] at q
          exact next 0 (by rw [al_n, if_neg (fun y => Int32.not_lt.mpr q y.1)])
        · exact next 0 (by rw [al_n, if_neg (fun y => q2 (e8.trans y.2))])
        · rw [e5] at q
          exact next 1 (by rw [al_n, if_pos ⟨Int32.not_le.mp q, e8.symm.trans (Classical.not_not.mp q2)⟩])
    exact loop (wd_n (wn τ a)) 0 (by omega)
  · have := h M' F (mR_C R)
    unfold q_alive at this
    rw [a3] at this; exact this
