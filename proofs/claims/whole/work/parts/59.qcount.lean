/-! count, both sides -/
noncomputable def ct_e (P : Nat → Prop) : Nat → Nat
  | 0 => 0
  | e + 1 => ct_e P e + @ite _ (P e) (Classical.propDecidable (P e)) 1 0
noncomputable def ct_s (τ : ta) (P : Nat → Nat → Prop) : Nat → Nat
  | 0 => 0
  | s + 1 => ct_s τ P s + ct_e (P s) (ta_dn τ s)
theorem ct_y {P : Nat → Prop} {e : Nat} (h : P e) : ct_e P (e + 1) = ct_e P e + 1 := congrArg (ct_e P e + ·) (if_pos h)
theorem ct_n {P : Nat → Prop} {e : Nat} (h : ¬ P e) : ct_e P (e + 1) = ct_e P e + 0 := congrArg (ct_e P e + ·) (if_neg h)
theorem ct_T : ∀ e, ct_e (fun _ => True) e = e
  | 0 => rfl
  | e + 1 => by rw [ct_y trivial, ct_T e]
def cP3 : Nat → Nat → Prop := fun _ _ => True
def cP4 (τ : ta) : Nat → Nat → Prop := fun s e => wd_a (wn τ 0) s e = -1
def cP5 (τ : ta) : Nat → Nat → Prop := fun s e => ¬ sr_all τ s e
noncomputable def q_count (τ : ta) (W q : Nat) (u : Int32) : Int32 := if u.toInt = 0 then nI W else if u.toInt = 1 then nI (ta_n τ) else if u.toInt = 2 then nI q else if u.toInt = 3 then nI (ct_s τ cP3 (ta_n τ)) else if u.toInt = 4 then nI (ct_s τ (cP4 τ) (ta_n τ)) else if u.toInt = 5 then nI (ct_s τ (cP5 τ) (ta_n τ)) else -1
theorem cw_countDots {X : am_X} (hX : am_Cl X) (d : Nat) (M : am_M) (τ : ta) (hτ : ta_ok τ) (hT : rc_T M τ) (Q : am_P) (h : Q (some (.inl (nI (ct_s τ cP3 (ta_n τ))))) M) : X d 41 0 [some (.inr (.inl (1, 0))), none, none] [] M Q := by
  have hn := hτ.1
  have e := hT.1
  refine am_go hX [4] 20 ?_
  have loop : ∀ t s : Nat, s + t = ta_n τ → X d 41 4 [some (.inr (.inl (1, 0))), some (.inl (nI (ct_s τ cP3 s))), some (.inl (nI s))] [] M Q := by
    intro t
    induction t with
    | zero =>
      intro s hs
      have hs : s = ta_n τ := by omega
      subst hs
      refine am_go hX [4] 30 ?_
      exact ⟨fun _ => h, fun (q : ¬ M.1 1 0 2 ≤ nI (ta_n τ)) => absurd (by rw [e]; exact nI_le (Nat.le_refl _) (by omega)) q⟩
    | succ t ih =>
      intro s hs
      have ed : M.1 18 (M.2.1 4 s) 2 = nI (ta_dn τ s) := (hT.2.2.2.2.1 s (by omega)).2.2.1
      refine am_go hX [4] 30 ?_
      refine ⟨fun (q : M.1 1 0 2 ≤ nI s) => absurd q (by rw [e]; exact nI_ge (by omega) (by omega)), fun _ => ⟨s, by show s < 13; omega, rfl, ?_⟩⟩
      refine (fun (z : X d 41 4 [some (.inr (.inl (1, 0))), some (.inl (nI (ct_s τ cP3 s) + M.1 18 (M.2.1 4 s) 2)), some (.inl (nI s + 1))] [] M Q) => z) ?_
      have := ih (s + 1) (by omega)
      rw [ct_s, show ct_e (cP3 s) (ta_dn τ s) = ta_dn τ s from ct_T _] at this
      rw [nI_1, ed, nI_add]; exact this
  exact loop (ta_n τ) 0 (by omega)
theorem cw_countFalse {X : am_X} (hX : am_Cl X) (d : Nat) (M : am_M) (hd : 10 ≤ d) (τ : ta) (hτ : ta_ok τ) (hC : cC M τ) (Q : am_P) (h : ∀ M', rc_F M M' → cC M' τ → Q (some (.inl (nI (ct_s τ (cP4 τ) (ta_n τ))))) M') : X d 30 0 [some (.inr (.inl (0, 0))), none, none, none] [] M Q := by
  have hn := hτ.1
  have hl := wds_ok hτ
  refine am_go hX [9] 30 ?_
  refine am_cc (by omega) (cw_fresh hX _ _ (by omega) τ hτ hC _ (fun M' F R => ?_))
  have := h M' F (cR_C R)
  have e := R.1.1
  have outer : ∀ t s : Nat, s + t = ta_n τ → ∀ z3, X d 30 9 [some (.inr (.inl (0, 0))), some (.inl (nI (ct_s τ (cP4 τ) s))), some (.inl (nI s)), z3] [] M' Q := by
    intro t
    induction t with
    | zero =>
      intro s hs z3
      have hs : s = ta_n τ := by omega
      subst hs
      refine am_go hX [9] 30 ?_
      exact ⟨fun _ => this, fun (q : ¬ M'.1 1 0 2 ≤ nI (ta_n τ)) => absurd (by rw [e]; exact nI_le (Nat.le_refl _) (by omega)) q⟩
    | succ t ih =>
      intro s hs z3
      have hsn : s < ta_n τ := by omega
      have h4 := (hτ.2.2.1 s hsn).2.2.1
      have ed : M'.1 18 (M'.2.1 4 s) 2 = nI (ta_dn τ s) := (R.1.2.2.2.2.1 s hsn).2.2.1
      have ea : ∀ e, e < ta_dn τ s → M'.1 26 (4 * M'.2.1 8 0 + 0) (4 * s + e) = wd_a (wn τ 0) s e := fun e he => (cR_W R (i := 0) (by omega)).2.2.2 s e hsn he
      have s13 : s < 13 := by omega
      have inner : ∀ r e : Nat, e + r = ta_dn τ s → X d 30 16 [some (.inr (.inl (0, 0))), some (.inl (nI (ct_s τ (cP4 τ) s + ct_e (cP4 τ s) e))), some (.inl (nI s)), some (.inl (nI e))] [] M' Q := by
        intro r
        induction r with
        | zero =>
          intro e he
          have he : e = ta_dn τ s := by omega
          refine am_go hX [9] 40 ?_
          refine ⟨s, s13, rfl, fun _ => ?_, fun (q : ¬ M'.1 18 (M'.2.1 4 s) 2 ≤ nI e) => absurd (by rw [ed, he]; exact nI_le (Nat.le_refl _) (by omega)) q⟩
          refine (fun (z : X d 30 9 [some (.inr (.inl (0, 0))), some (.inl (nI (ct_s τ (cP4 τ) s + ct_e (cP4 τ s) e))), some (.inl (nI s + 1)), some (.inl (nI e))] [] M' Q) => z) ?_
          rw [nI_1, he]
          exact ih (s + 1) (by omega) _
        | succ r ihr =>
          intro e he
          have next : ∀ x, ct_e (cP4 τ s) (e + 1) = ct_e (cP4 τ s) e + x → X d 30 16 [some (.inr (.inl (0, 0))), some (.inl (nI (ct_s τ (cP4 τ) s + ct_e (cP4 τ s) e) + nI x)), some (.inl (nI s)), some (.inl (nI e + 1))] [] M' Q := by
            intro x hx
            rw [nI_1, nI_add, Nat.add_assoc, ← hx]
            exact ihr (e + 1) (by omega)
          refine am_go hX [9, 16] 40 ?_
          refine ⟨s, s13, rfl, fun (q : M'.1 18 (M'.2.1 4 s) 2 ≤ nI e) => absurd q (by rw [ed]; exact nI_ge (by omega) (by omega)), fun _ => ⟨0, by show 0 < 4; omega, rfl, am_cc (by omega) ?_⟩⟩
          refine cw_accountOf hX _ _ _ s e (by omega) (by omega) _ ?_
          refine ⟨fun (q : ¬ M'.1 26 (4 * M'.2.1 8 0 + 0) (4 * s + e) = -1) => ?_, fun (q : ¬ ¬ M'.1 26 (4 * M'.2.1 8 0 + 0) (4 * s + e) = -1) => ?_⟩
          · rw [ea e (by omega)] at q
            exact next 0 (ct_n q)
          · rw [ea e (by omega)] at q
            exact next 1 (ct_y (Classical.not_not.mp q))
      refine am_go hX [9, 16] 30 ?_
      refine ⟨fun (q : M'.1 1 0 2 ≤ nI s) => absurd q (by rw [e]; exact nI_ge hsn (by omega)), fun _ => ?_⟩
      exact inner (ta_dn τ s) 0 (by omega)
  exact outer (ta_n τ) 0 (by omega) none
theorem cw_countUnsure {X : am_X} (hX : am_Cl X) (d : Nat) (M : am_M) (hd : 10 ≤ d) (τ : ta) (hτ : ta_ok τ) (hC : cC M τ) (Q : am_P) (h : ∀ M', rc_F M M' → cC M' τ → Q (some (.inl (nI (ct_s τ (cP5 τ) (ta_n τ))))) M') : X d 31 0 [some (.inr (.inl (0, 0))), none, none, none] [] M Q := by
  have hn := hτ.1
  refine am_go hX [9] 30 ?_
  refine am_cc (by omega) (cw_fresh hX _ _ (by omega) τ hτ hC _ (fun M' F R => ?_))
  have := h M' F (cR_C R)
  have e := R.1.1
  have outer : ∀ t s : Nat, s + t = ta_n τ → ∀ z3, X d 31 9 [some (.inr (.inl (0, 0))), some (.inl (nI (ct_s τ (cP5 τ) s))), some (.inl (nI s)), z3] [] M' Q := by
    intro t
    induction t with
    | zero =>
      intro s hs z3
      have hs : s = ta_n τ := by omega
      subst hs
      refine am_go hX [9] 30 ?_
      exact ⟨fun _ => this, fun (q : ¬ M'.1 1 0 2 ≤ nI (ta_n τ)) => absurd (by rw [e]; exact nI_le (Nat.le_refl _) (by omega)) q⟩
    | succ t ih =>
      intro s hs z3
      have hsn : s < ta_n τ := by omega
      have h4 := (hτ.2.2.1 s hsn).2.2.1
      have ed : M'.1 18 (M'.2.1 4 s) 2 = nI (ta_dn τ s) := (R.1.2.2.2.2.1 s hsn).2.2.1
      have s13 : s < 13 := by omega
      have inner : ∀ r e : Nat, e + r = ta_dn τ s → X d 31 16 [some (.inr (.inl (0, 0))), some (.inl (nI (ct_s τ (cP5 τ) s + ct_e (cP5 τ s) e))), some (.inl (nI s)), some (.inl (nI e))] [] M' Q := by
        intro r
        induction r with
        | zero =>
          intro e he
          have he : e = ta_dn τ s := by omega
          refine am_go hX [9] 40 ?_
          refine ⟨s, s13, rfl, fun _ => ?_, fun (q : ¬ M'.1 18 (M'.2.1 4 s) 2 ≤ nI e) => absurd (by rw [ed, he]; exact nI_le (Nat.le_refl _) (by omega)) q⟩
          refine (fun (z : X d 31 9 [some (.inr (.inl (0, 0))), some (.inl (nI (ct_s τ (cP5 τ) s + ct_e (cP5 τ s) e))), some (.inl (nI s + 1)), some (.inl (nI e))] [] M' Q) => z) ?_
          rw [nI_1, he]
          exact ih (s + 1) (by omega) _
        | succ r ihr =>
          intro e he
          have next : ∀ x, ct_e (cP5 τ s) (e + 1) = ct_e (cP5 τ s) e + x → X d 31 16 [some (.inr (.inl (0, 0))), some (.inl (nI (ct_s τ (cP5 τ) s + ct_e (cP5 τ s) e) + nI x)), some (.inl (nI s)), some (.inl (nI e + 1))] [] M' Q := by
            intro x hx
            rw [nI_1, nI_add, Nat.add_assoc, ← hx]
            exact ihr (e + 1) (by omega)
          refine am_go hX [9, 16] 40 ?_
          refine ⟨s, s13, rfl, fun (q : M'.1 18 (M'.2.1 4 s) 2 ≤ nI e) => absurd q (by rw [ed]; exact nI_ge (by omega) (by omega)), fun _ => am_cc (by omega) ?_⟩
          refine cw_allAgree hX _ _ (by omega) τ hτ R s e hsn (by omega) _ (fun z => am_beq1 ?_) (fun z => am_beq0 ?_)
          · exact next 0 (ct_n (fun y => y z))
          · exact next 1 (ct_y z)
      refine am_go hX [9, 16] 30 ?_
      refine ⟨fun (q : M'.1 1 0 2 ≤ nI s) => absurd q (by rw [e]; exact nI_ge hsn (by omega)), fun _ => ?_⟩
      exact inner (ta_dn τ s) 0 (by omega)
  exact outer (ta_n τ) 0 (by omega) none
theorem cw_count {X : am_X} (hX : am_Cl X) (d : Nat) (M : am_M) (hd : 11 ≤ d) (τ : ta) (hτ : ta_ok τ) (hC : cC M τ) (W q : Nat) (eW : M.1 1 0 1 = nI W) (eq : M.1 18 (M.2.1 4 (ta_n τ)) 2 = nI q) (u : Int32) (Q : am_P) (h : ∀ M', rc_F M M' → cC M' τ → Q (some (.inl (q_count τ W q u))) M') : X d 24 0 [some (.inr (.inl (0, 0))), some (.inl (u))] [] M Q := by
  have hn := hτ.1
  unfold q_count at h
  have h0 := h M (rc_F_rf M) hC
  refine am_go hX [] 20 ?_
  refine ⟨fun (z : u.toInt < 0 ∨ 5 < u.toInt) => ?_, fun (z : u.toInt = 0) => ?_, fun (z : u.toInt = 1) => ?_, fun (z : u.toInt = 2) => am_cc (by omega) ?_, fun (z : u.toInt = 3) => am_cc (by omega) ?_, fun (z : u.toInt = 4) => am_cc (by omega) ?_, fun (z : u.toInt = 5) => am_cc (by omega) ?_, trivial⟩
  · rw [if_neg (by omega), if_neg (by omega), if_neg (by omega), if_neg (by omega), if_neg (by omega), if_neg (by omega)] at h0; exact h0
  · rw [if_pos z, ← eW] at h0; exact h0
  · rw [if_neg (by omega), if_pos z, ← hC.1.1] at h0; exact h0
  · rw [if_neg (by omega), if_neg (by omega), if_pos z, ← eq] at h0
    exact cw_waiting hX _ _ (ta_n τ) (by omega) hC.1.1 _ h0
  · rw [if_neg (by omega), if_neg (by omega), if_neg (by omega), if_pos z] at h0
    exact cw_countDots hX _ _ τ hτ hC.1 _ h0
  · refine cw_countFalse hX _ _ (by omega) τ hτ hC _ (fun M' F R => ?_)
    have := h M' F R
    rw [if_neg (by omega), if_neg (by omega), if_neg (by omega), if_neg (by omega), if_pos z] at this; exact this
  · refine cw_countUnsure hX _ _ (by omega) τ hτ hC _ (fun M' F R => ?_)
    have := h M' F R
    rw [if_neg (by omega), if_neg (by omega), if_neg (by omega), if_neg (by omega), if_neg (by omega), if_pos z] at this; exact this
set_option maxHeartbeats 1000000 in
theorem cm_count {X : am_X} (hX : am_Cl X) (d : Nat) (M : am_M) (hd : 5 ≤ d) (τ : ta) (hτ : ta_ok τ) (hC : mC M τ) (W q : Nat) (eW : M.1 28 0 0 = nI W) (eq : M.1 28 0 2 = nI q) (u : Int32) (Q : am_P) (h : ∀ M', rm_F M M' → mC M' τ → Q (some (.inl (q_count τ W q u))) M') : X d 133 0 [some (.inr (.inl (28, 0))), some (.inl (u)), none, none, none] [] M Q := by
  have hn := hτ.1
  have hl := wds_ok hτ
  unfold q_count at h
  refine am_go hX [17] 20 ?_
  refine am_cc (by omega) (cm_fresh hX _ _ (by omega) τ hτ hC _ (fun M' F R => ?_))
  have h0 := h M' F (mR_C R)
  have e1 : M'.1 28 0 1 = nI (ta_n τ) := R.1.1
  have eW' : M'.1 28 0 0 = nI W := (F.2 0 (by simp)).trans eW
  have eq' : M'.1 28 0 2 = nI q := (F.2 2 (by simp)).trans eq
  have loops : ∀ P : Nat → Nat → Prop, Q (some (.inl (nI (ct_s τ P (ta_n τ))))) M' →
      (∀ s e c : Nat, s < ta_n τ → e < ta_dn τ s → (P s e → X d 133 23 [some (.inr (.inl (28, 0))), some (.inl (u)), some (.inl (nI c + nI 1)), some (.inl (nI s)), some (.inl (nI e + 1))] [] M' Q) → (¬ P s e → X d 133 23 [some (.inr (.inl (28, 0))), some (.inl (u)), some (.inl (nI c + nI 0)), some (.inl (nI s)), some (.inl (nI e + 1))] [] M' Q) → X d 133 29 [some (.inr (.inl (28, 0))), some (.inl (u)), some (.inl (nI c)), some (.inl (nI s)), some (.inl (nI e))] [] M' Q) →
      X d 133 17 [some (.inr (.inl (28, 0))), some (.inl (u)), some (.inl (nI 0)), some (.inl (nI 0)), none] [] M' Q := by
    intro P hQ body
    have outer : ∀ t s : Nat, s + t = ta_n τ → ∀ z4, X d 133 17 [some (.inr (.inl (28, 0))), some (.inl (u)), some (.inl (nI (ct_s τ P s))), some (.inl (nI s)), z4] [] M' Q := by
      intro t
      induction t with
      | zero =>
        intro s hs z4
        have hs : s = ta_n τ := by omega
        subst hs
        refine am_go hX [17] 30 ?_
        exact ⟨fun _ => hQ, fun (q : ¬ M'.1 28 0 1 ≤ nI (ta_n τ)) => absurd (by rw [e1]; exact nI_le (Nat.le_refl _) (by omega)) q⟩
      | succ t ih =>
        intro s hs z4
        have hsn : s < ta_n τ := by omega
        have h4 := (hτ.2.2.1 s hsn).2.2.1
        have ed : M'.1 33 0 s = nI (ta_dn τ s) := (R.1.2.2.1 s hsn).2.2.1
        have s12 : s < 12 := by omega
        have inner : ∀ r e : Nat, e + r = ta_dn τ s → X d 133 23 [some (.inr (.inl (28, 0))), some (.inl (u)), some (.inl (nI (ct_s τ P s + ct_e (P s) e))), some (.inl (nI s)), some (.inl (nI e))] [] M' Q := by
          intro r
          induction r with
          | zero =>
            intro e he
            have he : e = ta_dn τ s := by omega
            refine am_go hX [17, 29] 40 ?_
            refine ⟨s, s12, rfl, fun _ => ?_, fun (q : ¬ M'.1 33 0 s ≤ nI e) => absurd (by rw [ed, he]; exact nI_le (Nat.le_refl _) (by omega)) q⟩
            refine (fun (z : X d 133 17 [some (.inr (.inl (28, 0))), some (.inl (u)), some (.inl (nI (ct_s τ P s + ct_e (P s) e))), some (.inl (nI s + 1)), some (.inl (nI e))] [] M' Q) => z) ?_
            rw [nI_1, he]
            exact ih (s + 1) (by omega) _
          | succ r ihr =>
            intro e he
            refine am_go hX [17, 29] 40 ?_
            refine ⟨s, s12, rfl, fun (q : M'.1 33 0 s ≤ nI e) => absurd q (by rw [ed]; exact nI_ge (by omega) (by omega)), fun _ => ?_⟩
            have hn1 := ihr (e + 1) (by omega)
            refine body s e (ct_s τ P s + ct_e (P s) e) hsn (by omega) (fun z => ?_) (fun z => ?_)
            · rw [ct_y z] at hn1
              rw [nI_1, nI_add, Nat.add_assoc]; exact hn1
            · rw [ct_n z] at hn1
              rw [nI_1, nI_add, Nat.add_assoc]; exact hn1
        refine am_go hX [17, 23] 30 ?_
        refine ⟨fun (q : M'.1 28 0 1 ≤ nI s) => absurd q (by rw [e1]; exact nI_ge hsn (by omega)), fun _ => ?_⟩
        exact inner (ta_dn τ s) 0 (by omega)
    exact outer (ta_n τ) 0 (by omega) none
  have i3 : (3 : Int32).toInt = 3 := by decide
  have i4 : (4 : Int32).toInt = 4 := by decide
  refine ⟨fun (z : u.toInt < 0 ∨ 5 < u.toInt) => ?_, fun (z : u.toInt = 0) => ?_, fun (z : u.toInt = 1) => ?_, fun (z : u.toInt = 2) => ?_, fun (z : u.toInt = 3) => ?_, fun (z : u.toInt = 4) => ?_, fun (z : u.toInt = 5) => ?_, trivial⟩
  · rw [if_neg (by omega), if_neg (by omega), if_neg (by omega), if_neg (by omega), if_neg (by omega), if_neg (by omega)] at h0; exact h0
  · rw [if_pos z, ← eW'] at h0; exact h0
  · rw [if_neg (by omega), if_pos z, ← e1] at h0; exact h0
  · rw [if_neg (by omega), if_neg (by omega), if_pos z, ← eq'] at h0; exact h0
  · rw [if_neg (by omega), if_neg (by omega), if_neg (by omega), if_pos z] at h0
    have u3 : u = 3 := iz_ext (z.trans i3.symm)
    refine loops cP3 h0 (fun s e c hs he y n => ?_)
    refine am_go hX [23] 30 ?_
    exact ⟨fun _ => y trivial, fun (q : ¬ u = 3) => absurd u3 q⟩
  · rw [if_neg (by omega), if_neg (by omega), if_neg (by omega), if_neg (by omega), if_pos z] at h0
    have u4 : u = 4 := iz_ext (z.trans i4.symm)
    refine loops (cP4 τ) h0 (fun s e c hs he y n => ?_)
    refine am_go hX [23] 30 ?_
    refine ⟨fun (q : u = 3) => by rw [q] at z; exact absurd z (by decide), fun _ => ⟨fun (q : ¬ u = 4) => absurd u4 q, fun _ => am_cc (by omega) ?_⟩⟩
    refine cm_accountOf hX _ _ τ hτ R 0 s e (by omega) hs he _ ?_
    exact ⟨fun (q : ¬ wd_a (wn τ 0) s e = -1) => n q, fun (q : ¬ ¬ wd_a (wn τ 0) s e = -1) => y (Classical.not_not.mp q)⟩
  · rw [if_neg (by omega), if_neg (by omega), if_neg (by omega), if_neg (by omega), if_neg (by omega), if_pos z] at h0
    refine loops (cP5 τ) h0 (fun s e c hs he y n => ?_)
    refine am_go hX [23] 30 ?_
    refine ⟨fun (q : u = 3) => by rw [q] at z; exact absurd z (by decide), fun _ => ⟨fun _ => am_cc (by omega) ?_, fun (q : ¬ ¬ u = 4) => by rw [Classical.not_not.mp q] at z; exact absurd z (by decide)⟩⟩
    refine cm_isSure hX _ _ (by omega) τ hτ R s e hs he _ (fun v => am_bne1 ?_) (fun v => am_bne0 ?_)
    · exact n (fun w => w v)
    · exact y v
