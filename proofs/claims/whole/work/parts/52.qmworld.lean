/-! questions about one world: the reference -/
theorem cm_worlds {X : am_X} (hX : am_Cl X) (d : Nat) (M : am_M) (hd : 5 ≤ d) (τ : ta) (hτ : ta_ok τ) (hC : mC M τ) (Q : am_P) (h : ∀ M', rm_F M M' → mC M' τ → Q (some (.inl (nI (wds τ).length))) M') : X d 110 0 [some (.inr (.inl (28, 0)))] [] M Q := by
  refine am_go hX [] 20 ?_
  refine am_cc (by omega) (cm_fresh hX _ _ (by omega) τ hτ hC _ (fun M' F R => ?_))
  have := h M' F (mR_C R)
  refine (fun (z : Q (some (.inl (M'.1 28 0 18))) M') => z) ?_
  rw [show M'.1 28 0 18 = nI (wds τ).length from R.2.2.2.1]; exact this
theorem cm_cost {X : am_X} (hX : am_Cl X) (d : Nat) (M : am_M) (hd : 6 ≤ d) (τ : ta) (hτ : ta_ok τ) (hC : mC M τ) (w : Int32) (Q : am_P) (h : ∀ M', rm_F M M' → mC M' τ → Q (some (.inl (q_cost τ w))) M') : X d 111 0 [some (.inr (.inl (28, 0))), some (.inl (w))] [] M Q := by
  have hl := (wds_ok hτ).2.1
  refine am_go hX [] 20 ?_
  refine am_cc (by omega) (cm_isWorld hX _ _ (by omega) τ hτ hC w _ (fun M' F R a a1 a2 a3 => am_beq1 ?_) (fun M' F R a3 => am_beq0 ?_))
  · obtain ⟨b, hb, e19, hW⟩ := mR_W R
    have := h M' F (mR_C R)
    unfold q_cost at this
    rw [a3] at this
    refine ⟨b + a, by show b + a < 8; omega, by show M'.1 28 0 19 + w = _; rw [e19, a2, nI_add], ?_⟩
    refine (fun (z : Q (some (.inl (M'.1 43 0 (b + a)))) M') => z) ?_
    rw [(hW a a1).1]; exact this
  · have := h M' F (mR_C R)
    unfold q_cost at this
    rw [a3] at this; exact this
theorem cm_gap {X : am_X} (hX : am_Cl X) (d : Nat) (M : am_M) (hd : 6 ≤ d) (τ : ta) (hτ : ta_ok τ) (hC : mC M τ) (w : Int32) (Q : am_P) (h : ∀ M', rm_F M M' → mC M' τ → Q (some (.inl (q_gap τ w))) M') : X d 112 0 [some (.inr (.inl (28, 0))), some (.inl (w))] [] M Q := by
  have hl := (wds_ok hτ).2.1
  refine am_go hX [] 30 ?_
  refine am_cc (by omega) (cm_isWorld hX _ _ (by omega) τ hτ hC w _ (fun M' F R a a1 a2 a3 => am_beq1 ?_) (fun M' F R a3 => am_beq0 ?_))
  · obtain ⟨b, hb, e19, hW⟩ := mR_W R
    have := h M' F (mR_C R)
    unfold q_gap at this
    rw [a3] at this
    refine ⟨b + a, by show b + a < 8; omega, by show M'.1 28 0 19 + w = _; rw [e19, a2, nI_add], b + 0, by show b < 8; omega, e19, ?_⟩
    refine (fun (z : Q (some (.inl (M'.1 43 0 (b + a) - M'.1 43 0 (b + 0)))) M') => z) ?_
    rw [(hW a a1).1, (hW 0 (by omega)).1]; exact this
  · have := h M' F (mR_C R)
    unfold q_gap at this
    rw [a3] at this; exact this
theorem cm_tracks {X : am_X} (hX : am_Cl X) (d : Nat) (M : am_M) (hd : 6 ≤ d) (τ : ta) (hτ : ta_ok τ) (hC : mC M τ) (w : Int32) (Q : am_P) (h : ∀ M', rm_F M M' → mC M' τ → Q (some (.inl (q_tracks τ w))) M') : X d 113 0 [some (.inr (.inl (28, 0))), some (.inl (w))] [] M Q := by
  have hl := (wds_ok hτ).2.1
  refine am_go hX [] 20 ?_
  refine am_cc (by omega) (cm_isWorld hX _ _ (by omega) τ hτ hC w _ (fun M' F R a a1 a2 a3 => am_beq1 ?_) (fun M' F R a3 => am_beq0 ?_))
  · obtain ⟨b, hb, e19, hW⟩ := mR_W R
    have := h M' F (mR_C R)
    unfold q_tracks at this
    rw [a3] at this
    refine ⟨b + a, by show b + a < 8; omega, by show M'.1 28 0 19 + w = _; rw [e19, a2, nI_add], ?_⟩
    refine (fun (z : Q (some (.inl (M'.1 44 0 (b + a)))) M') => z) ?_
    rw [(hW a a1).2.1]; exact this
  · have := h M' F (mR_C R)
    unfold q_tracks at this
    rw [a3] at this; exact this
theorem mq_ix6 {B : Int32} {b a t : Nat} (e : B = nI b) : 6 * (B + nI a) + nI t = nI (6 * (b + a) + t) := by
  rw [e, nI_add, show (6 : Int32) = nI 6 from rfl, pk_mul, nI_add]
set_option maxHeartbeats 1000000 in
theorem cm_track {X : am_X} (hX : am_Cl X) (d : Nat) (M : am_M) (hd : 7 ≤ d) (τ : ta) (hτ : ta_ok τ) (hC : mC M τ) (w t u : Int32) (Q : am_P) (h : ∀ M', rm_F M M' → mC M' τ → Q (some (.inl (q_track τ w t u))) M') : X d 114 0 [some (.inr (.inl (28, 0))), some (.inl (w)), some (.inl (t)), some (.inl (u)), none] [] M Q := by
  have hl := (wds_ok hτ).2.1
  refine am_go hX [16] 40 ?_
  refine am_cc (by omega) (cm_isTrack hX _ _ (by omega) τ hτ hC w t _ (fun M' F R a c a1 c1 a2 c2 a3 c3 => am_bne1 ?_) (fun M' F R z => am_bne0 ?_))
  · obtain ⟨b, hb, e19, hW⟩ := mR_W R
    have h6 := ((wds_ok hτ).2.2 a a1).1
    have := h M' F (mR_C R)
    unfold q_track at this
    rw [q_tr_at a3 c3] at this
    have ht : ∀ j, j < 9 → M'.1 (46 + j) 0 (6 * (b + a) + c) = wd_t (am_nth (wds τ) a wd_0) c j := (hW a a1).2.2.1 c c1
    generalize wd_t (am_nth (wds τ) a wd_0) c = r at this ht
    have pt : 6 * (b + a) + c < 48 := by omega
    unfold tk_rd at this
    refine (fun (z : X d 114 16 [some (.inr (.inl (28, 0))), some (.inl (w)), some (.inl (t)), some (.inl (u)), some (.inl (6 * (M'.1 28 0 19 + w) + t))] [] M' Q) => z) ?_
    rw [a2, c2, mq_ix6 e19]
    refine am_go hX [] 20 ?_
    refine ⟨fun (q : u.toInt < 0 ∨ 9 < u.toInt) => ?_, fun (q : u.toInt = 0) => ⟨_, pt, rfl, ?_⟩, fun (q : u.toInt = 1) => ⟨_, pt, rfl, ?_⟩, fun (q : u.toInt = 2) => ⟨_, pt, rfl, ?_⟩, fun (q : u.toInt = 3) => ⟨_, pt, rfl, ?_⟩, fun (q : u.toInt = 4) => ⟨_, pt, rfl, ?_⟩, fun (q : u.toInt = 5) => ⟨_, pt, rfl, ?_⟩, fun (q : u.toInt = 6) => ⟨_, pt, rfl, ?_⟩, fun (q : u.toInt = 7) => ⟨_, pt, rfl, ?_⟩, fun (q : u.toInt = 8) => ⟨_, pt, rfl, ?_⟩, fun (q : u.toInt = 9) => ⟨_, pt, rfl, ?_⟩, trivial⟩
    · rw [if_neg (by omega), if_neg (by omega), if_neg (by omega), if_neg (by omega), if_neg (by omega), if_neg (by omega), if_neg (by omega), if_neg (by omega), if_neg (by omega), if_neg (by omega)] at this; exact this
    · rw [if_pos q, ← ht 0 (by omega)] at this; exact this
    · rw [if_neg (by omega), if_pos q, ← ht 1 (by omega)] at this; exact this
    · rw [if_neg (by omega), if_neg (by omega), if_pos q, ← ht 2 (by omega)] at this; exact this
    · rw [if_neg (by omega), if_neg (by omega), if_neg (by omega), if_pos q, ← ht 3 (by omega)] at this; exact this
    · rw [if_neg (by omega), if_neg (by omega), if_neg (by omega), if_neg (by omega), if_pos q, ← ht 4 (by omega)] at this; exact this
    · rw [if_neg (by omega), if_neg (by omega), if_neg (by omega), if_neg (by omega), if_neg (by omega), if_pos q, ← ht 5 (by omega)] at this; exact this
    · rw [if_neg (by omega), if_neg (by omega), if_neg (by omega), if_neg (by omega), if_neg (by omega), if_neg (by omega), if_pos q, ← ht 6 (by omega)] at this; exact this
    · rw [if_neg (by omega), if_neg (by omega), if_neg (by omega), if_neg (by omega), if_neg (by omega), if_neg (by omega), if_neg (by omega), if_pos q, ← ht 7 (by omega)] at this; exact this
    · rw [if_neg (by omega), if_neg (by omega), if_neg (by omega), if_neg (by omega), if_neg (by omega), if_neg (by omega), if_neg (by omega), if_neg (by omega), if_pos q, ← ht 8 (by omega)] at this
      refine ⟨fun (z : M'.1 54 0 (6 * (b + a) + c) = 0) => ?_, fun (z : ¬ M'.1 54 0 (6 * (b + a) + c) = 0) => ?_⟩
      · rw [if_pos z] at this; exact this
      · rw [if_neg z] at this; exact this
    · rw [if_neg (by omega), if_neg (by omega), if_neg (by omega), if_neg (by omega), if_neg (by omega), if_neg (by omega), if_neg (by omega), if_neg (by omega), if_neg (by omega), if_pos q, ← ht 5 (by omega)] at this
      refine ⟨fun (z : M'.1 51 0 (6 * (b + a) + c) ≤ 1) => ?_, fun (z : ¬ M'.1 51 0 (6 * (b + a) + c) ≤ 1) => ?_⟩
      · rw [if_neg (Int32.not_lt.mpr z)] at this; exact this
      · rw [if_pos (Int32.not_le.mp z)] at this; exact this
  · have := h M' F (mR_C R)
    unfold q_track at this
    rw [q_tr_no z] at this; exact this
theorem cm_accountOf {X : am_X} (hX : am_Cl X) (d : Nat) (M : am_M) (τ : ta) (hτ : ta_ok τ) (hR : mR M τ) (a s e : Nat) (ha : a < (wds τ).length) (hs : s < ta_n τ) (he : e < ta_dn τ s) (Q : am_P) (h : Q (some (.inl (wd_a (wn τ a) s e))) M) : X d 115 0 [some (.inr (.inl (28, 0))), some (.inl (nI a)), some (.inl (nI s)), some (.inl (nI e))] [] M Q := by
  obtain ⟨b, hb, e19, hW⟩ := mR_W hR
  have hl := (wds_ok hτ).2.1
  have hn := hτ.1
  have h4 := (hτ.2.2.1 s hs).2.2.1
  have ix : 48 * (nI b + nI a) + 4 * nI s + nI e = nI (48 * (b + a) + (4 * s + e)) := by
    rw [nI_add, show (48 : Int32) = nI 48 from rfl, show (4 : Int32) = nI 4 from rfl, pk_mul, pk_mul, nI_add, nI_add, Nat.add_assoc]
  refine am_go hX [] 30 ?_
  refine ⟨48 * (b + a) + (4 * s + e), by show 48 * (b + a) + (4 * s + e) < 384; omega, by show 48 * (M.1 28 0 19 + nI a) + 4 * nI s + nI e = _; rw [e19, ix], ?_⟩
  refine (fun (z : Q (some (.inl (M.1 45 0 (48 * (b + a) + (4 * s + e))))) M) => z) ?_
  rw [(hW a ha).2.2.2 s e hs he]; exact h
theorem cm_account {X : am_X} (hX : am_Cl X) (d : Nat) (M : am_M) (hd : 6 ≤ d) (τ : ta) (hτ : ta_ok τ) (hC : mC M τ) (w s e : Int32) (Q : am_P) (h : ∀ M', rm_F M M' → mC M' τ → Q (some (.inl (q_account τ w s e))) M') : X d 116 0 [some (.inr (.inl (28, 0))), some (.inl (w)), some (.inl (s)), some (.inl (e))] [] M Q := by
  refine am_go hX [] 30 ?_
  refine am_cc (by omega) (cm_isWorld hX _ _ (by omega) τ hτ hC w _ (fun M' F R a a1 a2 a3 => am_beq1 (am_cc (by omega) ?_)) (fun M' F R a3 => am_beq0 ?_))
  · have := h M' F (mR_C R)
    unfold q_account at this
    rw [a3] at this
    dsimp only at this
    refine cm_isDot hX _ _ (by omega) τ hτ R.1 s e _ (fun x y x1 y1 x2 y2 x3 y3 => am_beq1 (am_cc (by omega) ?_)) (fun z => am_beq0 ?_)
    · rw [q_dt_at x3 y3] at this
      rw [a2, x2, y2]
      exact cm_accountOf hX _ _ τ hτ R a x y a1 x1 y1 _ this
    · rw [q_dt_no z] at this; exact this
  · have := h M' F (mR_C R)
    unfold q_account at this
    rw [a3] at this; exact this
theorem cm_ordered {X : am_X} (hX : am_Cl X) (d : Nat) (M : am_M) (hd : 5 ≤ d) (τ : ta) (hτ : ta_ok τ) (hC : mC M τ) (i : Int32) (Q : am_P) (h : ∀ M', rm_F M M' → mC M' τ → Q (some (.inl (q_ordered τ i))) M') : X d 118 0 [some (.inr (.inl (28, 0))), some (.inl (i))] [] M Q := by
  have hn := hτ.1
  refine am_go hX [] 30 ?_
  refine am_cc (by omega) (cm_fresh hX _ _ (by omega) τ hτ hC _ (fun M' F R => am_cc (by omega) ?_))
  have := h M' F (mR_C R)
  unfold q_ordered at this
  refine (fun (z : X (d - 1) 82 0 [some (.inr (.inl (28, 0))), some (.inl (i)), some (.inl (0)), some (.inl (M'.1 28 0 1 - 1))] [] M' _) => z) ?_
  rw [R.1.1]
  refine cm_in hX _ _ _ _ _ _ (fun q1 q2 => am_beq1 ?_) (fun q => am_beq0 ?_)
  · rw [ix_lt (by omega)] at q2
    obtain ⟨k, k1, k2, k3⟩ := ix_y (by omega) q1 q2
    rw [k3] at this
    refine ⟨k, by show k < 12; omega, k2, ?_⟩
    refine (fun (z : Q (some (.inl (M'.1 42 0 k))) M') => z) ?_
    rw [R.2.2.1 k k1]; exact this
  · rw [ix_lt (by omega)] at q
    rw [ix_n (by omega) q] at this; exact this
