/-! pairs, level, right: the reference -/
def rm_P (M M' : am_M) : Prop := am_fr [28] M M' ∧ ∀ k, k ≠ 37 → k ≠ 38 → M'.1 28 0 k = M.1 28 0 k
theorem rm_P_rf (M : am_M) : rm_P M M := ⟨am_fr_rf _ _, fun _ _ _ => rfl⟩
theorem rm_P_si {M M' : am_M} {k : Nat} {x : Int32} (h : rm_P M M') (hk : k = 37 ∨ k = 38) : rm_P M (am_si M' 28 0 k x) := ⟨am_fr_si h.1 (by simp), fun j h1 h2 => by rw [am_si_at, if_neg (by omega)]; exact h.2 j h1 h2⟩
theorem rm_P_T {M M' : am_M} {τ : ta} (h : rm_T M τ) (fr : rm_P M M') : rm_T M' τ := rm_T_fr' h (am_fg_of fr.1 []) (fr.2 1 (by simp) (by simp)) (by simp)
set_option maxHeartbeats 2000000 in
theorem cm_pairsOf {X : am_X} (hX : am_Cl X) (d : Nat) (M : am_M) (τ : ta) (hτ : ta_ok τ) (hT : rm_T M τ) (w u : Nat) (hw : w < 3) (hu : u < 3) (Q : am_P) (h : ∀ M', rm_P M M' → M'.1 28 0 37 = (prs τ w u).2.1 → M'.1 28 0 38 = (prs τ w u).2.2 → Q (some (.inl (nI (prs τ w u).1))) M') : X d 128 0 [some (.inr (.inl (28, 0))), some (.inl (nI w)), some (.inl (nI u)), none, none, none, none, none] [] M Q := by
  have hn := hτ.1
  refine am_go hX [10] 40 ?_
  have lS : ∀ t s : Nat, s + t = ta_n τ → ∀ M' : am_M, rm_P M M' → ∀ z : pz, z = pr_s τ w u s → M'.1 28 0 37 = z.2.1 → M'.1 28 0 38 = z.2.2 → ∀ z5 z6 z7, X d 128 10 [some (.inr (.inl (28, 0))), some (.inl (nI w)), some (.inl (nI u)), some (.inl (nI z.1)), some (.inl (nI s)), z5, z6, z7] [] M' Q := by
    intro t
    induction t with
    | zero =>
      intro s hs M' fr z hz e1 e2 z5 z6 z7
      have hs : s = ta_n τ := by omega
      subst hs
      have e := (rm_P_T hT fr).1
      refine am_go hX [10] 40 ?_
      refine ⟨fun _ => ?_, fun (y : ¬ M'.1 28 0 1 ≤ nI (ta_n τ)) => absurd (by rw [e]; exact nI_le (Nat.le_refl _) (by omega)) y⟩
      subst hz
      exact h M' fr e1 e2
    | succ t ih =>
      intro s hs M' fr z hz e1 e2 z5 z6 z7
      have hsn : s < ta_n τ := by omega
      have bs := hτ.2.2.1 s hsn
      have lR : ∀ t2 r : Nat, r + t2 = ta_n τ → ∀ M' : am_M, rm_P M M' → ∀ z : pz, z = pr_r τ w u s r (pr_s τ w u s) → M'.1 28 0 37 = z.2.1 → M'.1 28 0 38 = z.2.2 → ∀ z6 z7, X d 128 16 [some (.inr (.inl (28, 0))), some (.inl (nI w)), some (.inl (nI u)), some (.inl (nI z.1)), some (.inl (nI s)), some (.inl (nI r)), z6, z7] [] M' Q := by
        intro t2
        induction t2 with
        | zero =>
          intro r hr M' fr z hz e1 e2 z6 z7
          have hr : r = ta_n τ := by omega
          subst hr
          have e := (rm_P_T hT fr).1
          refine am_go hX [10] 60 ?_
          refine ⟨fun _ => ?_, fun (y : ¬ M'.1 28 0 1 ≤ nI (ta_n τ)) => absurd (by rw [e]; exact nI_le (Nat.le_refl _) (by omega)) y⟩
          refine (fun (y : X d 128 10 [some (.inr (.inl (28, 0))), some (.inl (nI w)), some (.inl (nI u)), some (.inl (nI z.1)), some (.inl (nI s + 1)), some (.inl (nI (ta_n τ))), z6, z7] [] M' Q) => y) ?_
          rw [nI_1]
          exact ih (s + 1) (by omega) M' fr z hz e1 e2 _ _ _
        | succ t2 ih2 =>
          intro r hr M' fr z hz e1 e2 z6 z7
          have hrn : r < ta_n τ := by omega
          have br := hτ.2.2.1 r hrn
          have next : ∀ M' : am_M, rm_P M M' → ∀ z : pz, z = pr_r τ w u s (r + 1) (pr_s τ w u s) → M'.1 28 0 37 = z.2.1 → M'.1 28 0 38 = z.2.2 → ∀ z6 z7, X d 128 16 [some (.inr (.inl (28, 0))), some (.inl (nI w)), some (.inl (nI u)), some (.inl (nI z.1)), some (.inl (nI s)), some (.inl (nI r + 1)), z6, z7] [] M' Q := by
            intro M' fr z hz e1 e2 z6 z7
            rw [nI_1]
            exact ih2 (r + 1) (by omega) M' fr z hz e1 e2 _ _
          have s12 : s < 12 := by omega
          have r12 : r < 12 := by omega
          have hT' := rm_P_T hT fr
          have e := hT'.1
          have cs := hT'.2.2.1 s hsn
          have cr := hT'.2.2.1 r hrn
          have lA : pr_r τ w u s (r + 1) (pr_s τ w u s) = pr_a τ s r (ta_dn τ s) (pr_r τ w u s r (pr_s τ w u s)) → ∀ t3 a : Nat, a + t3 = ta_dn τ s → ∀ M' : am_M, rm_P M M' → ∀ z : pz, z = pr_a τ s r a (pr_r τ w u s r (pr_s τ w u s)) → M'.1 28 0 37 = z.2.1 → M'.1 28 0 38 = z.2.2 → ∀ z7, X d 128 46 [some (.inr (.inl (28, 0))), some (.inl (nI w)), some (.inl (nI u)), some (.inl (nI z.1)), some (.inl (nI s)), some (.inl (nI r)), some (.inl (nI (4 * s + a))), z7] [] M' Q := by
            intro hpr t3
            induction t3 with
            | zero =>
              intro a ha M' fr z hz e1 e2 z7
              have ha : a = ta_dn τ s := by omega
              subst ha
              have e : M'.1 33 0 s = nI (ta_dn τ s) := ((rm_P_T hT fr).2.2.1 s hsn).2.2.1
              refine am_go hX [16] 60 ?_
              refine ⟨s, s12, rfl, fun _ => next M' fr z (by rw [hz, hpr]) e1 e2 _ _, fun (y : ¬ 4 * nI s + M'.1 33 0 s ≤ nI (4 * s + ta_dn τ s)) => absurd ?_ y⟩
              rw [e, show (4 : Int32) = nI 4 from rfl, pk_mul, nI_add]; exact nI_le (Nat.le_refl _) (by omega)
            | succ t3 ih3 =>
              intro a ha M' fr z hz e1 e2 z7
              have had : a < ta_dn τ s := by omega
              have lB : ∀ t4 b : Nat, b + t4 = ta_dn τ r → ∀ M' : am_M, rm_P M M' → ∀ z : pz, z = pr_b τ s r a b (pr_a τ s r a (pr_r τ w u s r (pr_s τ w u s))) → M'.1 28 0 37 = z.2.1 → M'.1 28 0 38 = z.2.2 → X d 128 60 [some (.inr (.inl (28, 0))), some (.inl (nI w)), some (.inl (nI u)), some (.inl (nI z.1)), some (.inl (nI s)), some (.inl (nI r)), some (.inl (nI (4 * s + a))), some (.inl (nI (4 * r + b)))] [] M' Q := by
                intro t4
                induction t4 with
                | zero =>
                  intro b hb M' fr z hz e1 e2
                  have hb : b = ta_dn τ r := by omega
                  subst hb
                  have e : M'.1 33 0 r = nI (ta_dn τ r) := ((rm_P_T hT fr).2.2.1 r hrn).2.2.1
                  refine am_go hX [46] 60 ?_
                  refine ⟨r, r12, rfl, fun _ => ?_, fun (y : ¬ 4 * nI r + M'.1 33 0 r ≤ nI (4 * r + ta_dn τ r)) => absurd ?_ y⟩
                  · refine (fun (y : X d 128 46 [some (.inr (.inl (28, 0))), some (.inl (nI w)), some (.inl (nI u)), some (.inl (nI z.1)), some (.inl (nI s)), some (.inl (nI r)), some (.inl (nI (4 * s + a) + 1)), some (.inl (nI (4 * r + ta_dn τ r)))] [] M' Q) => y) ?_
                    rw [nI_1]
                    exact ih3 (a + 1) (by omega) M' fr z hz e1 e2 _
                  · rw [e, show (4 : Int32) = nI 4 from rfl, pk_mul, nI_add]; exact nI_le (Nat.le_refl _) (by omega)
                | succ t4 ih4 =>
                  intro b hb M' fr z hz e1 e2
                  have hbd : b < ta_dn τ r := by omega
                  have hT' := rm_P_T hT fr
                  have cs := hT'.2.2.1 s hsn
                  have cr := hT'.2.2.1 r hrn
                  have m1 : M'.1 36 0 (4 * s + a) = nI (ta_dm τ s a) := (cs.2.2.2 a had).2.2
                  have m2 : M'.1 36 0 (4 * r + b) = nI (ta_dm τ r b) := (cr.2.2.2 b hbd).2.2
                  have k1 := (bs.2.2.2 a had).2.2
                  have k2 := (br.2.2.2 b hbd).2.2
                  have la : 4 * s + a < 48 := by omega
                  have lb : 4 * r + b < 48 := by omega
                  have nextB : ∀ M' : am_M, rm_P M M' → ∀ z : pz, z = pr_b τ s r a (b + 1) (pr_a τ s r a (pr_r τ w u s r (pr_s τ w u s))) → M'.1 28 0 37 = z.2.1 → M'.1 28 0 38 = z.2.2 → X d 128 60 [some (.inr (.inl (28, 0))), some (.inl (nI w)), some (.inl (nI u)), some (.inl (nI z.1)), some (.inl (nI s)), some (.inl (nI r)), some (.inl (nI (4 * s + a))), some (.inl (nI (4 * r + b) + 1))] [] M' Q := by
                    intro M' fr z hz e1 e2
                    rw [nI_1]
                    exact ih4 (b + 1) (by omega) M' fr z hz e1 e2
                  refine am_go hX [60] 80 ?_
                  refine ⟨r, r12, rfl, fun (y : 4 * nI r + M'.1 33 0 r ≤ nI (4 * r + b)) => absurd y ?_, fun _ => ⟨4 * s + a, la, rfl, fun (y : M'.1 36 0 (4 * s + a) = 0) => ?_, fun (y : ¬ M'.1 36 0 (4 * s + a) = 0) => ⟨4 * s + a, la, rfl, 4 * r + b, lb, rfl, fun (v : M'.1 36 0 (4 * s + a) = M'.1 36 0 (4 * r + b)) => ⟨4 * r + b, lb, rfl, 4 * s + a, la, rfl, 4 * r + b, lb, rfl, 4 * s + a, la, rfl, ?_⟩, fun (v : ¬ M'.1 36 0 (4 * s + a) = M'.1 36 0 (4 * r + b)) => ?_⟩⟩⟩
                  · rw [cr.2.2.1, show (4 : Int32) = nI 4 from rfl, pk_mul, nI_add]; exact nI_ge (by omega) (by omega)
                  · rw [m1] at y
                    have y : ta_dm τ s a = 0 := (nI_eq (b := 0) (by omega) (by omega)).mp y
                    exact nextB M' fr z (by rw [pr_b, pr_d, if_pos (Or.inl y)]; exact hz) e1 e2
                  · rw [m1] at y
                    rw [m1, m2] at v
                    have y : ¬ ta_dm τ s a = 0 := fun v => y (by rw [v]; rfl)
                    have v := (nI_eq (by omega) (by omega)).mp v
                    refine (fun (q : X d 128 60 [some (.inr (.inl (28, 0))), some (.inl (nI w)), some (.inl (nI u)), some (.inl (nI z.1 + 1)), some (.inl (nI s)), some (.inl (nI r)), some (.inl (nI (4 * s + a))), some (.inl (nI (4 * r + b) + 1))] [] (am_si (am_si M' 28 0 37 (M'.1 28 0 37 + (M'.1 34 0 (4 * r + b) - M'.1 34 0 (4 * s + a)))) 28 0 38 (M'.1 28 0 38 + (M'.1 35 0 (4 * r + b) - M'.1 35 0 (4 * s + a)))) Q) => q) ?_
                    rw [nI_1 z.1, e1, e2, (cs.2.2.2 a had).1, (cr.2.2.2 b hbd).1, (cs.2.2.2 a had).2.1, (cr.2.2.2 b hbd).2.1]
                    refine nextB _ (rm_P_si (rm_P_si fr (Or.inl rfl)) (Or.inr rfl)) (z.1 + 1, z.2.1 + (ta_dx τ r b - ta_dx τ s a), z.2.2 + (ta_dy τ r b - ta_dy τ s a)) ?_ ?_ ?_
                    · rw [pr_b, pr_d, if_neg (fun q => q.elim y (fun q => q v)), ← hz]
                    · rw [am_si_at, if_neg (by omega), am_si_at, if_pos ⟨rfl, rfl, rfl⟩]
                    · rw [am_si_at, if_pos ⟨rfl, rfl, rfl⟩]
                  · rw [m1, m2] at v
                    exact nextB M' fr z (by rw [pr_b, pr_d, if_pos (Or.inr (fun q => v (by rw [q])))]; exact hz) e1 e2
              have e : M'.1 33 0 s = nI (ta_dn τ s) := ((rm_P_T hT fr).2.2.1 s hsn).2.2.1
              refine am_go hX [60] 60 ?_
              refine ⟨s, s12, rfl, fun (y : 4 * nI s + M'.1 33 0 s ≤ nI (4 * s + a)) => absurd y ?_, fun _ => ?_⟩
              · rw [e, show (4 : Int32) = nI 4 from rfl, pk_mul, nI_add]; exact nI_ge (by omega) (by omega)
              · refine (fun (y : X d 128 60 [some (.inr (.inl (28, 0))), some (.inl (nI w)), some (.inl (nI u)), some (.inl (nI z.1)), some (.inl (nI s)), some (.inl (nI r)), some (.inl (nI (4 * s + a))), some (.inl (4 * nI r))] [] M' Q) => y) ?_
                rw [show 4 * nI r = nI (4 * r + 0) by rw [show (4 : Int32) = nI 4 from rfl, pk_mul, Nat.add_zero]]
                exact lB (ta_dn τ r) 0 (by omega) M' fr z hz e1 e2
          refine am_go hX [10, 16, 46] 80 ?_
          refine ⟨fun (y : M'.1 28 0 1 ≤ nI r) => absurd y (by rw [e]; exact nI_ge hrn (by omega)), fun _ => ⟨s, s12, rfl, fun (y : ¬ M'.1 31 0 s = nI w) => ?_, fun (y : ¬ ¬ M'.1 31 0 s = nI w) => ⟨r, r12, rfl, fun (v : ¬ M'.1 31 0 r = nI u) => ?_, fun (v : ¬ ¬ M'.1 31 0 r = nI u) => ⟨s, s12, rfl, r, r12, rfl, fun (x : M'.1 32 0 s = M'.1 32 0 r) => ?_, fun (x : ¬ M'.1 32 0 s = M'.1 32 0 r) => ?_⟩⟩⟩⟩
          · rw [cs.1] at y
            exact next M' fr z (by rw [pr_r, if_neg (fun q => y (by rw [q.1]))]; exact hz) e1 e2 _ _
          · rw [cr.1] at v
            exact next M' fr z (by rw [pr_r, if_neg (fun q => v (by rw [q.2.1]))]; exact hz) e1 e2 _ _
          · have y := Classical.not_not.mp y
            have v := Classical.not_not.mp v
            rw [cs.1, nI_eq (by omega) (by omega)] at y
            rw [cr.1, nI_eq (by omega) (by omega)] at v
            rw [cs.2.1, cr.2.1, nI_eq (by omega) (by omega)] at x
            refine (fun (y : X d 128 46 [some (.inr (.inl (28, 0))), some (.inl (nI w)), some (.inl (nI u)), some (.inl (nI z.1)), some (.inl (nI s)), some (.inl (nI r)), some (.inl (4 * nI s)), z7] [] M' Q) => y) ?_
            rw [show 4 * nI s = nI (4 * s + 0) by rw [show (4 : Int32) = nI 4 from rfl, pk_mul, Nat.add_zero]]
            exact lA (by rw [pr_r, if_pos ⟨y, v, x⟩]) (ta_dn τ s) 0 (by omega) M' fr z hz e1 e2 _
          · rw [cs.2.1, cr.2.1] at x
            exact next M' fr z (by rw [pr_r, if_neg (fun q => x (by rw [q.2.2]))]; exact hz) e1 e2 _ _
      have e := (rm_P_T hT fr).1
      refine am_go hX [10, 16] 40 ?_
      refine ⟨fun (y : M'.1 28 0 1 ≤ nI s) => absurd y (by rw [e]; exact nI_ge hsn (by omega)), fun _ => ?_⟩
      exact lR (ta_n τ) 0 (by omega) M' fr z hz e1 e2 _ _
  refine (fun (y : X d 128 10 [some (.inr (.inl (28, 0))), some (.inl (nI w)), some (.inl (nI u)), some (.inl (nI 0)), some (.inl (nI 0)), none, none, none] [] (am_si (am_si M 28 0 37 0) 28 0 38 0) Q) => y) ?_
  refine lS (ta_n τ) 0 (by omega) _ (rm_P_si (rm_P_si (rm_P_rf M) (Or.inl rfl)) (Or.inr rfl)) (0, 0, 0) rfl ?_ ?_ _ _ _
  · rw [am_si_at, if_neg (by omega), am_si_at, if_pos ⟨rfl, rfl, rfl⟩]
  · rw [am_si_at, if_pos ⟨rfl, rfl, rfl⟩]
theorem cm_kept50 {X : am_X} (hX : am_Cl X) (d : Nat) (M : am_M) (v : Int32) (Q : am_P) (h : Q (some (.inl (k50 v))) M) : X d 131 0 [some (.inr (.inl (28, 0))), some (.inl (v))] [] M Q := by
  unfold k50 at h
  refine am_go hX [] 20 ?_
  refine ⟨fun (q : -50 ≤ v) => ⟨fun (q2 : v ≤ 50) => ?_, fun (q2 : ¬ v ≤ 50) => ?_⟩, fun (q : ¬ -50 ≤ v) => ?_⟩
  · rw [if_neg (Int32.not_lt.mpr q), if_neg (Int32.not_lt.mpr q2)] at h; exact h
  · rw [if_neg (Int32.not_lt.mpr q), if_pos (Int32.not_le.mp q2)] at h; exact h
  · rw [if_pos (Int32.not_le.mp q)] at h; exact h
theorem cm_cutX {X : am_X} (hX : am_Cl X) (d : Nat) (M : am_M) (τ : ta) (hτ : ta_ok τ) (a b : Nat) (x : Int32) (hx : x = (prs τ a b).2.1 ∨ x = (prs τ a b).2.2) (h0 : ¬ (prs τ a b).1 = 0) (Q : am_P) (h : Q (some (.inl (lb_fd x (nI (prs τ a b).1)))) M) : X d 102 0 [some (.inr (.inl (28, 0))), some (.inl (x)), some (.inl (nI (prs τ a b).1)), none] [] M Q := by
  obtain ⟨k1, k2, k3⟩ := prs_ok hτ a b
  refine cm_cut hX d M x _ 4608000 (by omega) ?_ ?_ (by rw [nI_toInt (by omega)]; omega) Q h
  · rcases hx with rfl | rfl <;> omega
  · rcases hx with rfl | rfl <;> omega
theorem cm_pairs {X : am_X} (hX : am_Cl X) (d : Nat) (M : am_M) (hd : 2 ≤ d) (τ : ta) (hτ : ta_ok τ) (hT : rm_T M τ) (W : Nat) (hW : W ≤ 3) (eW : M.1 28 0 0 = nI W) (w u : Int32) (Q : am_P) (h : ∀ M', rm_P M M' → Q (some (.inl (q_pairs τ W w u))) M') : X d 129 0 [some (.inr (.inl (28, 0))), some (.inl (w)), some (.inl (u))] [] M Q := by
  refine am_go hX [] 40 ?_
  refine am_cc (by omega) (cm_isWatcher hX _ _ (by omega) _ _ (fun w1 w2 => am_beq1 (am_cc (by omega) ?_)) (fun c => am_beq0 ?_))
  · rw [eW, ix_lt (by omega)] at w2
    obtain ⟨a, a1, a2, a3⟩ := ix_y (by omega) w1 w2
    refine cm_isWatcher hX _ _ (by omega) _ _ (fun u1 u2 => am_bne1 ?_) (fun c => am_bne0 ?_)
    · rw [eW, ix_lt (by omega)] at u2
      obtain ⟨b, b1, b2, b3⟩ := ix_y (by omega) u1 u2
      unfold q_pairs at h
      rw [q_ww_at a3 b3] at h
      refine ⟨fun (y : ¬ w = u) => am_cc (by omega) ?_, fun (y : ¬ ¬ w = u) => ?_⟩
      · rw [a2, b2] at y ⊢
        rw [if_neg (fun v => y (by rw [v]))] at h
        exact cm_pairsOf hX _ _ τ hτ hT a b (by omega) (by omega) _ (fun M' fr _ _ => h M' fr)
      · rw [a2, b2] at y
        rw [if_pos ((nI_eq (by omega) (by omega)).mp (Classical.not_not.mp y))] at h
        exact h M (rm_P_rf _)
    · rw [eW, ix_lt (by omega)] at c
      have := h M (rm_P_rf _)
      unfold q_pairs at this
      rw [q_ww_n2 (ix_n (by omega) c)] at this; exact this
  · rw [eW, ix_lt (by omega)] at c
    have := h M (rm_P_rf _)
    unfold q_pairs at this
    rw [q_ww_n1 (ix_n (by omega) c)] at this; exact this
theorem cm_level {X : am_X} (hX : am_Cl X) (d : Nat) (M : am_M) (hd : 2 ≤ d) (τ : ta) (hτ : ta_ok τ) (hT : rm_T M τ) (W : Nat) (hW : W ≤ 3) (eW : M.1 28 0 0 = nI W) (w u o : Int32) (Q : am_P) (h : ∀ M', rm_P M M' → Q (some (.inl (q_level τ W w u o))) M') : X d 130 0 [some (.inr (.inl (28, 0))), some (.inl (w)), some (.inl (u)), some (.inl (o)), none] [] M Q := by
  refine am_go hX [] 60 ?_
  refine am_cc (by omega) (cm_isWatcher hX _ _ (by omega) _ _ (fun w1 w2 => am_beq1 (am_cc (by omega) ?_)) (fun c => am_beq0 ?_))
  · rw [eW, ix_lt (by omega)] at w2
    obtain ⟨a, a1, a2, a3⟩ := ix_y (by omega) w1 w2
    refine cm_isWatcher hX _ _ (by omega) _ _ (fun u1 u2 => am_beq1 ?_) (fun c => am_beq0 ?_)
    · rw [eW, ix_lt (by omega)] at u2
      obtain ⟨b, b1, b2, b3⟩ := ix_y (by omega) u1 u2
      unfold q_level at h
      rw [q_ww_at a3 b3] at h
      refine ⟨fun (y : w = u) => ?_, fun (y : ¬ w = u) => am_cc (by omega) ?_⟩
      · rw [a2, b2] at y
        rw [if_pos (Or.inl ((nI_eq (by omega) (by omega)).mp y))] at h
        exact h M (rm_P_rf _)
      · rw [a2, b2] at y
        have y : ¬ a = b := fun v => y (by rw [v])
        refine cm_in hX _ _ _ _ _ _ (fun o1 o2 => am_bne1 (am_cc (by omega) ?_)) (fun c => am_bne0 ?_)
        · rw [a2, b2]
          have ok := prs_ok hτ a b
          refine cm_pairsOf hX _ _ τ hτ hT a b (by omega) (by omega) _ (fun M' fr ex ey => ?_)
          have := h M' fr
          refine ⟨fun (v : ¬ nI (prs τ a b).1 = 0) => ?_, fun (v : ¬ ¬ nI (prs τ a b).1 = 0) => ?_⟩
          · have v : ¬ (prs τ a b).1 = 0 := fun k => v (by rw [k]; rfl)
            rw [if_neg (fun z => z.elim y (fun z => z.elim (fun z => z ⟨o1, o2⟩) v))] at this
            refine ⟨fun (q : ¬ o = 0) => am_cc (by omega) ?_, fun (q : ¬ ¬ o = 0) => am_cc (by omega) ?_⟩
            · rw [if_neg q] at this
              refine (fun (k : X (d - 1) 102 0 [some (.inr (.inl (28, 0))), some (.inl (M'.1 28 0 38)), some (.inl (nI (prs τ a b).1)), none] [] M' _) => k) ?_
              rw [ey]
              exact cm_cutX hX _ _ τ hτ a b _ (Or.inr rfl) v _ this
            · rw [if_pos (Classical.not_not.mp q)] at this
              refine (fun (k : X (d - 1) 102 0 [some (.inr (.inl (28, 0))), some (.inl (M'.1 28 0 37)), some (.inl (nI (prs τ a b).1)), none] [] M' _) => k) ?_
              rw [ex]
              exact cm_cutX hX _ _ τ hτ a b _ (Or.inl rfl) v _ this
          · have v := Classical.not_not.mp v
            rw [if_pos (Or.inr (Or.inr ((nI_eq (b := 0) (by have := ok.1; omega) (by omega)).mp v)))] at this; exact this
        · rw [if_pos (Or.inr (Or.inl c))] at h
          exact h M (rm_P_rf _)
    · rw [eW, ix_lt (by omega)] at c
      have := h M (rm_P_rf _)
      unfold q_level at this
      rw [q_ww_n2 (ix_n (by omega) c)] at this; exact this
  · rw [eW, ix_lt (by omega)] at c
    have := h M (rm_P_rf _)
    unfold q_level at this
    rw [q_ww_n1 (ix_n (by omega) c)] at this; exact this
set_option maxHeartbeats 1000000 in
theorem cm_right {X : am_X} (hX : am_Cl X) (d : Nat) (M : am_M) (hd : 2 ≤ d) (τ : ta) (hτ : ta_ok τ) (hT : rm_T M τ) (W : Nat) (hW : W ≤ 3) (eW : M.1 28 0 0 = nI W) (w u : Int32) (Q : am_P)
    (h0 : (ix w W = none ∨ ix u W = none) → Q (some (.inl (-1))) M) (h1 : ∀ a b, ix w W = some a → ix u W = some b → a < W → b < W → a = b → Q (some (.inl (-2))) M)
    (h2 : ∀ a b, ix w W = some a → ix u W = some b → a < W → b < W → ¬ a = b → (prs τ a b).1 = 0 → ∀ M', rm_P M M' → Q (some (.inl (-3))) M')
    (h3 : ∀ a b, ix w W = some a → ix u W = some b → a < W → b < W → ¬ a = b → ¬ (prs τ a b).1 = 0 → ∀ M', rm_P M M' → Q (some (.inl (rg_n τ a b))) (am_si (am_si (am_si M' 29 0 b (rg_a τ a b)) 30 0 b (rg_b τ a b)) 28 0 16 1)) : X d 132 0 [some (.inr (.inl (28, 0))), some (.inl (w)), some (.inl (u)), none, none, none, none] [] M Q := by
  refine am_go hX [50] 80 ?_
  refine am_cc (by omega) (cm_isWatcher hX _ _ (by omega) _ _ (fun w1 w2 => am_beq1 (am_cc (by omega) ?_)) (fun c => am_beq0 ?_))
  · rw [eW, ix_lt (by omega)] at w2
    obtain ⟨a, a1, a2, a3⟩ := ix_y (by omega) w1 w2
    refine cm_isWatcher hX _ _ (by omega) _ _ (fun u1 u2 => am_bne1 ?_) (fun c => am_bne0 ?_)
    · rw [eW, ix_lt (by omega)] at u2
      obtain ⟨b, b1, b2, b3⟩ := ix_y (by omega) u1 u2
      refine ⟨fun (y : ¬ w = u) => am_cc (by omega) ?_, fun (y : ¬ ¬ w = u) => ?_⟩
      · rw [a2, b2] at y
        have y : ¬ a = b := fun v => y (by rw [v])
        rw [a2, b2]
        have ok := prs_ok hτ a b
        refine cm_pairsOf hX _ _ τ hτ hT a b (by omega) (by omega) _ (fun M' fr ex ey => ?_)
        have a3' : a < 3 := by omega
        have b3' : b < 3 := by omega
        have hT' := rm_P_T hT fr
        refine ⟨fun (q : ¬ nI (prs τ a b).1 = 0) => ?_, fun (q : ¬ ¬ nI (prs τ a b).1 = 0) => ?_⟩
        · have q : ¬ (prs τ a b).1 = 0 := fun v => q (by rw [v]; rfl)
          have h3 := h3 a b a3 b3 a1 b1 y q M' fr
          refine ⟨a, a3', rfl, am_cc (by omega) ?_⟩
          refine (fun (k : X (d - 1) 102 0 [some (.inr (.inl (28, 0))), some (.inl (M'.1 28 0 37)), some (.inl (nI (prs τ a b).1)), none] [] M' _) => k) ?_
          rw [ex]
          refine cm_cutX hX _ _ τ hτ a b _ (Or.inl rfl) q _ (am_cc (by omega) ?_)
          refine (fun (v : X (d - 1) 131 0 [some (.inr (.inl (28, 0))), some (.inl (M'.1 29 0 a - lb_fd (prs τ a b).2.1 (nI (prs τ a b).1)))] [] M' _) => v) ?_
          refine cm_kept50 hX _ _ _ _ ?_
          refine ⟨a, a3', rfl, am_cc (by omega) ?_⟩
          refine (fun (k : X (d - 1) 102 0 [some (.inr (.inl (28, 0))), some (.inl (M'.1 28 0 38)), some (.inl (nI (prs τ a b).1)), none] [] M' _) => k) ?_
          rw [ey]
          refine cm_cutX hX _ _ τ hτ a b _ (Or.inr rfl) q _ (am_cc (by omega) ?_)
          refine (fun (v : X (d - 1) 131 0 [some (.inr (.inl (28, 0))), some (.inl (M'.1 30 0 a - lb_fd (prs τ a b).2.2 (nI (prs τ a b).1)))] [] M' _) => v) ?_
          refine cm_kept50 hX _ _ _ _ ?_
          refine (fun (v : X d 132 50 [some (.inr (.inl (28, 0))), some (.inl (nI a)), some (.inl (nI b)), some (.inl (nI (prs τ a b).1)), some (.inl (k50 (M'.1 29 0 a - lb_fd (prs τ a b).2.1 (nI (prs τ a b).1)))), some (.inl (k50 (M'.1 30 0 a - lb_fd (prs τ a b).2.2 (nI (prs τ a b).1)))), none] [] M' Q) => v) ?_
          have ea : k50 (M'.1 29 0 a - lb_fd (prs τ a b).2.1 (nI (prs τ a b).1)) = rg_a τ a b := by rw [(hT'.2.1 a a3').1]; rfl
          have eb : k50 (M'.1 30 0 a - lb_fd (prs τ a b).2.2 (nI (prs τ a b).1)) = rg_b τ a b := by rw [(hT'.2.1 a a3').2]; rfl
          rw [ea, eb]
          have sa : M'.1 29 0 b = ta_sa τ b := (hT'.2.1 b b3').1
          have sb : M'.1 30 0 b = ta_sb τ b := (hT'.2.1 b b3').2
          unfold rg_n at h3
          refine am_go hX [] 60 ?_
          refine ⟨b, b3', rfl, fun (v : rg_a τ a b = M'.1 29 0 b) => ⟨b, b3', rfl, fun (v2 : rg_b τ a b = M'.1 30 0 b) => ⟨b, b3', rfl, b, b3', rfl, Or.inr rfl, ?_⟩, fun (v2 : ¬ rg_b τ a b = M'.1 30 0 b) => ⟨b, b3', rfl, b, b3', rfl, Or.inr rfl, ?_⟩⟩, fun (v : ¬ rg_a τ a b = M'.1 29 0 b) => ⟨b, b3', rfl, fun (v2 : rg_b τ a b = M'.1 30 0 b) => ⟨b, b3', rfl, b, b3', rfl, Or.inr rfl, ?_⟩, fun (v2 : ¬ rg_b τ a b = M'.1 30 0 b) => ⟨b, b3', rfl, b, b3', rfl, Or.inr rfl, ?_⟩⟩⟩
          · rw [if_pos (v.trans sa), if_pos (v2.trans sb)] at h3; exact h3
          · rw [if_pos (v.trans sa), if_neg (fun k => v2 (k.trans sb.symm))] at h3; exact h3
          · rw [if_neg (fun k => v (k.trans sa.symm)), if_pos (v2.trans sb)] at h3; exact h3
          · rw [if_neg (fun k => v (k.trans sa.symm)), if_neg (fun k => v2 (k.trans sb.symm))] at h3; exact h3
        · have q := Classical.not_not.mp q
          exact h2 a b a3 b3 a1 b1 y ((nI_eq (b := 0) (by have := ok.1; omega) (by omega)).mp q) M' fr
      · rw [a2, b2] at y
        exact h1 a b a3 b3 a1 b1 ((nI_eq (by omega) (by omega)).mp (Classical.not_not.mp y))
    · rw [eW, ix_lt (by omega)] at c
      exact h0 (Or.inr (ix_n (by omega) c))
  · rw [eW, ix_lt (by omega)] at c
    exact h0 (Or.inl (ix_n (by omega) c))
