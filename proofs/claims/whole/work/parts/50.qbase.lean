/-! QUESTIONS. An index among n; fresh states; small questions -/
def ix (w : Int32) (n : Nat) : Option Nat := if 0 ≤ w.toInt ∧ w.toInt < n then some w.toInt.toNat else none
theorem ix_y {w : Int32} {n : Nat} (hn : n < 2 ^ 30) (h0 : 0 ≤ w) (h1 : w < nI n) : ∃ k, k < n ∧ w = nI k ∧ ix w n = some k := by
  rw [Int32.le_iff_toInt_le, Int32.toInt_zero] at h0
  rw [Int32.lt_iff_toInt_lt, nI_toInt (by omega)] at h1
  refine ⟨w.toInt.toNat, by omega, iz_nI (by omega) (by omega), ?_⟩
  unfold ix; rw [if_pos ⟨h0, h1⟩]
theorem ix_n {w : Int32} {n : Nat} (hn : n < 2 ^ 30) (h : ¬ (0 ≤ w ∧ w < nI n)) : ix w n = none := by
  unfold ix
  rw [if_neg]
  intro z
  apply h
  rw [Int32.le_iff_toInt_le, Int32.toInt_zero, Int32.lt_iff_toInt_lt, nI_toInt (by omega)]
  exact z
theorem ix_lt {w : Int32} {n : Nat} (hn : n < 2 ^ 30) : w ≤ nI n - 1 ↔ w < nI n := by
  have e : (nI n - 1).toInt = (n : Int) - 1 := by
    have h1 : (1 : Int32).toInt = 1 := by decide
    rw [iz_sub (by rw [nI_toInt (by omega), h1]; omega) (by rw [nI_toInt (by omega), h1]; omega), nI_toInt (by omega), h1]
  rw [Int32.le_iff_toInt_le, e, Int32.lt_iff_toInt_lt, nI_toInt (by omega)]; omega
theorem ix_of {k n : Nat} (h : k < n) (hn : n < 2 ^ 30) : ix (nI k) n = some k := by
  unfold ix
  rw [nI_toInt (by omega), if_pos ⟨by omega, by omega⟩, Int.toNat_natCast]
/-- the worlds kept are well made -/
theorem wd_k_ok {τ : ta} (hτ : ta_ok τ) : ∀ i, i ≤ ta_n τ → 1 ≤ (wd_k τ i).length ∧ (wd_k τ i).length ≤ 4 ∧ ∀ j, j < (wd_k τ i).length → wd_ok i (am_nth (wd_k τ i) j wd_0)
  | 0, _ => ⟨Nat.le_refl 1, (by decide : 1 ≤ 4), fun j hj => by
      have hj : j < 1 := hj
      have : j = 0 := by omega
      subst this
      exact ⟨by show 0 ≤ 6; omega, by show 0 ≤ _; omega, fun k hk => absurd hk (Nat.not_lt_zero k)⟩⟩
  | i + 1, hi => by
    obtain ⟨h1, h2, h3⟩ := wd_k_ok hτ i (by omega)
    have hs := (od_facts (ta_mo τ) (ta_n τ)).1 i (by omega)
    have hb := jn_best_ok hτ (s := od τ i) hs h3
    have hst := wd_step_ok hτ (s := od τ i) hs h3
    have hK := hτ.2.2.2.2.2.2.2.2.2
    show 1 ≤ (wd_step τ (od τ i) (wd_k τ i)).length ∧ _ ∧ ∀ j, j < (wd_step τ (od τ i) (wd_k τ i)).length → wd_ok (i + 1) (am_nth (wd_step τ (od τ i) (wd_k τ i)) j wd_0)
    rw [hst.1]
    exact ⟨hb.2.1 h1, by show (wd_step τ (od τ i) (wd_k τ i)).length ≤ 4; rw [hst.1]; have := hb.1; omega, fun j hj => (hst.2 j hj).2⟩
theorem wds_ok {τ : ta} (hτ : ta_ok τ) : 1 ≤ (wds τ).length ∧ (wds τ).length ≤ 4 ∧ ∀ j, j < (wds τ).length → wd_ok (ta_n τ) (am_nth (wds τ) j wd_0) := wd_k_ok hτ _ (Nat.le_refl _)
/-- the class's state, and one just made anew; the reference's -/
def cC (M : am_M) (τ : ta) : Prop := rc_T M τ ∧ rc_S M ∧ (M.2.1 8 0 < 2 ∧ M.2.1 8 2 = 1 - M.2.1 8 0) ∧ (M.1 1 0 0 = 0 → rc_D M τ)
def cR (M : am_M) (τ : ta) : Prop := rc_T M τ ∧ rc_S M ∧ rc_D M τ
theorem cR_C {M : am_M} {τ : ta} (h : cR M τ) : cC M τ := ⟨h.1, h.2.1, ⟨h.2.2.2.2.2.1, h.2.2.2.2.2.2.1⟩, fun _ => h.2.2⟩
def mC (M : am_M) (τ : ta) : Prop := rm_T M τ ∧ rm_E M ∧ (M.1 28 0 16 = 0 → rm_D M τ)
def mR (M : am_M) (τ : ta) : Prop := rm_T M τ ∧ rm_E M ∧ rm_D M τ
theorem mR_C {M : am_M} {τ : ta} (h : mR M τ) : mC M τ := ⟨h.1, h.2.1, fun _ => h.2.2⟩
theorem rm_F_rf (M : am_M) : rm_F M M := ⟨am_fr_rf _ _, fun _ _ => rfl⟩
theorem cw_fresh {X : am_X} (hX : am_Cl X) (d : Nat) (M : am_M) (hd : 9 ≤ d) (τ : ta) (hτ : ta_ok τ) (hC : cC M τ) (Q : am_P) (h : ∀ M', rc_F M M' → cR M' τ → Q none M') : X d 42 0 [some (.inr (.inl (8, 0))), some (.inr (.inl (1, 0))), none] [] M Q :=
  cw_refresh hX d M hd τ hτ hC.1 hC.2.1 hC.2.2.1 hC.2.2.2 Q (fun M' F D S _ => h M' F ⟨rc_T_F hC.1 F, S, D⟩)
theorem cm_fresh {X : am_X} (hX : am_Cl X) (d : Nat) (M : am_M) (hd : 4 ≤ d) (τ : ta) (hτ : ta_ok τ) (hC : mC M τ) (Q : am_P) (h : ∀ M', rm_F M M' → mR M' τ → Q none M') : X d 107 0 [some (.inr (.inl (28, 0))), none] [] M Q :=
  cm_renew hX d M hd τ hτ hC.1 hC.2.1 hC.2.2 Q (fun M' F D E _ => h M' F ⟨rm_T_F hC.1 F, E, D⟩)
/-- a world's cells in a fresh state -/
theorem cR_W {M : am_M} {τ : ta} (h : cR M τ) {i : Nat} (hi : i < (wds τ).length) : rc_W M τ (fun s => s < ta_n τ) (4 * M.2.1 8 0 + i) (am_nth (wds τ) i wd_0) := (h.2.2.2.2.2.2.2 i hi).1
theorem mR_W {M : am_M} {τ : ta} (h : mR M τ) : ∃ b, (b = 0 ∨ b = 4) ∧ M.1 28 0 19 = nI b ∧ ∀ i, i < (wds τ).length → rm_W M τ (fun s => s < ta_n τ) (b + i) (am_nth (wds τ) i wd_0) := by
  obtain ⟨-, -, b, h1, h2, h3⟩ := h.2.2.2
  exact ⟨b, h1, h2, fun i hi => (h3 i hi).1⟩
theorem cw_isWorld {X : am_X} (hX : am_Cl X) (d : Nat) (M : am_M) (τ : ta) (hτ : ta_ok τ) (hR : cR M τ) (w : Int32) (Q : am_P) (h1 : ∀ k, k < (wds τ).length → w = nI k → ix w (wds τ).length = some k → Q (some (.inl (1))) M) (h0 : ix w (wds τ).length = none → Q (some (.inl (0))) M) : X d 44 0 [some (.inr (.inl (8, 0))), some (.inl (w))] [] M Q := by
  have hl := (wds_ok hτ).2.1
  have e : M.1 8 0 1 = nI (wds τ).length := hR.2.2.2.1
  refine am_go hX [] 20 ?_
  refine ⟨fun (q : w < 0) => ⟨Or.inl rfl, h0 (ix_n (by omega) (fun z => Int32.not_le.mpr q z.1))⟩, fun (q : ¬ w < 0) => ⟨fun (q2 : M.1 8 0 1 ≤ w) => ⟨Or.inl rfl, h0 (ix_n (by omega) (fun z => ?_))⟩, fun (q2 : ¬ M.1 8 0 1 ≤ w) => ⟨Or.inr rfl, ?_⟩⟩⟩
  · rw [e] at q2; exact Int32.not_lt.mpr q2 z.2
  · rw [e] at q2
    obtain ⟨k, k1, k2, k3⟩ := ix_y (by omega) (Int32.not_lt.mp q) (Int32.not_le.mp q2)
    exact h1 k k1 k2 k3
theorem cw_isTrack {X : am_X} (hX : am_Cl X) (d : Nat) (M : am_M) (hd : 1 ≤ d) (τ : ta) (hτ : ta_ok τ) (hR : cR M τ) (w t : Int32) (Q : am_P) (h1 : ∀ a b, a < (wds τ).length → b < wd_n (am_nth (wds τ) a wd_0) → w = nI a → t = nI b → ix w (wds τ).length = some a → ix t (wd_n (am_nth (wds τ) a wd_0)) = some b → Q (some (.inl (1))) M)
    (h0 : (∀ a, ix w (wds τ).length = some a → ix t (wd_n (am_nth (wds τ) a wd_0)) = none) → Q (some (.inl (0))) M) : X d 45 0 [some (.inr (.inl (8, 0))), some (.inl (w)), some (.inl (t))] [] M Q := by
  have hl := (wds_ok hτ).2.1
  refine am_go hX [] 20 ?_
  refine am_cc hd (cw_isWorld hX _ _ τ hτ hR w _ (fun a a1 a2 a3 => ?_) (fun a3 => ?_))
  · have e : M.1 24 (4 * M.2.1 8 0 + a) 1 = nI (wd_n (am_nth (wds τ) a wd_0)) := (cR_W hR a1).2.1
    have h6 := ((wds_ok hτ).2.2 a a1).1
    refine am_beq1 ⟨fun (q : t < 0) => ⟨Or.inl rfl, h0 (fun a' z => ?_)⟩, fun (q : ¬ t < 0) => ⟨a, by show a < 4; omega, a2, fun (q2 : M.1 24 (4 * M.2.1 8 0 + a) 1 ≤ t) => ⟨Or.inl rfl, h0 (fun a' z => ?_)⟩, fun (q2 : ¬ M.1 24 (4 * M.2.1 8 0 + a) 1 ≤ t) => ⟨Or.inr rfl, ?_⟩⟩⟩
    · rw [a3] at z; cases z; exact ix_n (by omega) (fun z => Int32.not_le.mpr q z.1)
    · rw [a3] at z; cases z; rw [e] at q2; exact ix_n (by omega) (fun z => Int32.not_lt.mpr q2 z.2)
    · rw [e] at q2
      obtain ⟨k, k1, k2, k3⟩ := ix_y (by omega) (Int32.not_lt.mp q) (Int32.not_le.mp q2)
      exact h1 a k a1 k1 a2 k2 a3 k3
  · exact am_beq0 ⟨Or.inl rfl, h0 (fun a z => by rw [a3] at z; cases z)⟩
theorem cw_isDot {X : am_X} (hX : am_Cl X) (d : Nat) (M : am_M) (hd : 1 ≤ d) (τ : ta) (hτ : ta_ok τ) (hT : rc_T M τ) (s e : Int32) (Q : am_P) (h1 : ∀ a b, a < ta_n τ → b < ta_dn τ a → s = nI a → e = nI b → ix s (ta_n τ) = some a → ix e (ta_dn τ a) = some b → Q (some (.inl (1))) M)
    (h0 : (∀ a, ix s (ta_n τ) = some a → ix e (ta_dn τ a) = none) → Q (some (.inl (0))) M) : X d 34 0 [some (.inr (.inl (1, 0))), some (.inl (s)), some (.inl (e))] [] M Q := by
  have hn := hτ.1
  refine am_go hX [] 20 ?_
  refine am_cc hd (cw_isScan hX _ _ s _ (fun q1 q2 => ?_) (fun q => ?_))
  · rw [hT.1] at q2
    obtain ⟨a, a1, a2, a3⟩ := ix_y (by omega) q1 q2
    have e2 : M.1 18 (M.2.1 4 a) 2 = nI (ta_dn τ a) := (hT.2.2.2.2.1 a a1).2.2.1
    have h4 := (hτ.2.2.1 a a1).2.2.1
    refine am_beq1 ⟨fun (q : e < 0) => ⟨Or.inl rfl, h0 (fun a' z => ?_)⟩, fun (q : ¬ e < 0) => ⟨a, by show a < 13; omega, a2, fun (q2 : M.1 18 (M.2.1 4 a) 2 ≤ e) => ⟨Or.inl rfl, h0 (fun a' z => ?_)⟩, fun (q2 : ¬ M.1 18 (M.2.1 4 a) 2 ≤ e) => ⟨Or.inr rfl, ?_⟩⟩⟩
    · rw [a3] at z; cases z; exact ix_n (by omega) (fun z => Int32.not_le.mpr q z.1)
    · rw [a3] at z; cases z; rw [e2] at q2; exact ix_n (by omega) (fun z => Int32.not_lt.mpr q2 z.2)
    · rw [e2] at q2
      obtain ⟨k, k1, k2, k3⟩ := ix_y (by omega) (Int32.not_lt.mp q) (Int32.not_le.mp q2)
      exact h1 a k a1 k1 a2 k2 a3 k3
  · rw [hT.1] at q
    exact am_beq0 ⟨Or.inl rfl, h0 (fun a z => by rw [ix_n (by omega) q] at z; cases z)⟩
theorem cm_isWorld {X : am_X} (hX : am_Cl X) (d : Nat) (M : am_M) (hd : 5 ≤ d) (τ : ta) (hτ : ta_ok τ) (hC : mC M τ) (w : Int32) (Q : am_P) (h1 : ∀ M', rm_F M M' → mR M' τ → ∀ k, k < (wds τ).length → w = nI k → ix w (wds τ).length = some k → Q (some (.inl (1))) M') (h0 : ∀ M', rm_F M M' → mR M' τ → ix w (wds τ).length = none → Q (some (.inl (0))) M') : X d 108 0 [some (.inr (.inl (28, 0))), some (.inl (w))] [] M Q := by
  have hl := (wds_ok hτ).2.1
  refine am_go hX [] 20 ?_
  refine am_cc (by omega) (cm_fresh hX _ _ (by omega) τ hτ hC _ (fun M' F R => ?_))
  have e : M'.1 28 0 18 = nI (wds τ).length := R.2.2.2.1
  refine am_cc (by omega) ?_
  refine (fun (z : X (d - 1) 82 0 [some (.inr (.inl (28, 0))), some (.inl (w)), some (.inl (0)), some (.inl (M'.1 28 0 18 - 1))] [] M' _) => z) ?_
  rw [e]
  refine cm_in hX _ _ _ _ _ _ (fun q1 q2 => ⟨Or.inr rfl, ?_⟩) (fun q => ⟨Or.inl rfl, ?_⟩)
  · rw [ix_lt (by omega)] at q2
    obtain ⟨k, k1, k2, k3⟩ := ix_y (by omega) q1 q2
    exact h1 M' F R k k1 k2 k3
  · rw [ix_lt (by omega)] at q
    exact h0 M' F R (ix_n (by omega) q)
theorem cm_isTrack {X : am_X} (hX : am_Cl X) (d : Nat) (M : am_M) (hd : 6 ≤ d) (τ : ta) (hτ : ta_ok τ) (hC : mC M τ) (w t : Int32) (Q : am_P) (h1 : ∀ M', rm_F M M' → mR M' τ → ∀ a b, a < (wds τ).length → b < wd_n (am_nth (wds τ) a wd_0) → w = nI a → t = nI b → ix w (wds τ).length = some a → ix t (wd_n (am_nth (wds τ) a wd_0)) = some b → Q (some (.inl (1))) M')
    (h0 : ∀ M', rm_F M M' → mR M' τ → (∀ a, ix w (wds τ).length = some a → ix t (wd_n (am_nth (wds τ) a wd_0)) = none) → Q (some (.inl (0))) M') : X d 109 0 [some (.inr (.inl (28, 0))), some (.inl (w)), some (.inl (t))] [] M Q := by
  have hl := (wds_ok hτ).2.1
  refine am_go hX [] 20 ?_
  refine am_cc (by omega) (cm_isWorld hX _ _ (by omega) τ hτ hC w _ (fun M' F R a a1 a2 a3 => ?_) (fun M' F R a3 => ?_))
  · obtain ⟨b, hb, e19, hW⟩ := mR_W R
    have e : M'.1 44 0 (b + a) = nI (wd_n (am_nth (wds τ) a wd_0)) := (hW a a1).2.1
    have h6 := ((wds_ok hτ).2.2 a a1).1
    refine am_beq1 ⟨b + a, by show b + a < 8; omega, ?_, am_cc (by omega) ?_⟩
    · show M'.1 28 0 19 + w = _
      rw [e19, a2, nI_add]
    refine (fun (z : X (d - 1) 82 0 [some (.inr (.inl (28, 0))), some (.inl (t)), some (.inl (0)), some (.inl (M'.1 44 0 (b + a) - 1))] [] M' _) => z) ?_
    rw [e]
    refine cm_in hX _ _ _ _ _ _ (fun q1 q2 => am_beq1 ⟨Or.inr rfl, ?_⟩) (fun q => am_beq0 ⟨Or.inl rfl, h0 M' F R (fun a' z => ?_)⟩)
    · rw [ix_lt (by omega)] at q2
      obtain ⟨k, k1, k2, k3⟩ := ix_y (by omega) q1 q2
      exact h1 M' F R a k a1 k1 a2 k2 a3 k3
    · rw [ix_lt (by omega)] at q
      rw [a3] at z; cases z; exact ix_n (by omega) q
  · exact am_beq0 ⟨Or.inl rfl, h0 M' F R (fun a z => by rw [a3] at z; cases z)⟩
theorem cm_isDot {X : am_X} (hX : am_Cl X) (d : Nat) (M : am_M) (hd : 2 ≤ d) (τ : ta) (hτ : ta_ok τ) (hT : rm_T M τ) (s e : Int32) (Q : am_P) (h1 : ∀ a b, a < ta_n τ → b < ta_dn τ a → s = nI a → e = nI b → ix s (ta_n τ) = some a → ix e (ta_dn τ a) = some b → Q (some (.inl (1))) M)
    (h0 : (∀ a, ix s (ta_n τ) = some a → ix e (ta_dn τ a) = none) → Q (some (.inl (0))) M) : X d 85 0 [some (.inr (.inl (28, 0))), some (.inl (s)), some (.inl (e))] [] M Q := by
  have hn := hτ.1
  refine am_go hX [] 20 ?_
  refine am_cc (by omega) (cm_isScan hX _ _ (by omega) s _ (fun q1 q2 => ?_) (fun q => ?_))
  · rw [hT.1, ix_lt (by omega)] at q2
    obtain ⟨a, a1, a2, a3⟩ := ix_y (by omega) q1 q2
    have e2 : M.1 33 0 a = nI (ta_dn τ a) := (hT.2.2.1 a a1).2.2.1
    have h4 := (hτ.2.2.1 a a1).2.2.1
    refine am_beq1 ⟨a, by show a < 12; omega, a2, am_cc (by omega) ?_⟩
    refine (fun (z : X (d - 1) 82 0 [some (.inr (.inl (28, 0))), some (.inl (e)), some (.inl (0)), some (.inl (M.1 33 0 a - 1))] [] M _) => z) ?_
    rw [e2]
    refine cm_in hX _ _ _ _ _ _ (fun q1 q2 => am_beq1 ⟨Or.inr rfl, ?_⟩) (fun q => am_beq0 ⟨Or.inl rfl, h0 (fun a' z => ?_)⟩)
    · rw [ix_lt (by omega)] at q2
      obtain ⟨k, k1, k2, k3⟩ := ix_y (by omega) q1 q2
      exact h1 a k a1 k1 a2 k2 a3 k3
    · rw [ix_lt (by omega)] at q
      rw [a3] at z; cases z; exact ix_n (by omega) q
  · rw [hT.1, ix_lt (by omega)] at q
    exact am_beq0 ⟨Or.inl rfl, h0 (fun a z => by rw [ix_n (by omega) q] at z; cases z)⟩
